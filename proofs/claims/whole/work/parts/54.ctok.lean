/-! ===== LAYER 3, F: tokens, the component ===== -/
def ckd (k : Tk) : Int32 := if k.1 = 0 then -1 else if k.1 = 1 then -3 else if k.1 = 2 then -4 else if k.1 = 3 then nI k.2.1 else -2
def tkC (σ : St) (k : Tk) : Prop := gI σ 5 2 = ckd k ∧ gI σ 5 3 = nI k.2.2.2.1 ∧ gI σ 5 4 = nI k.2.2.2.2 ∧ (k.1 = 1 → gL σ 5 5 = L64 (encL 32 k.2.2.1)) ∧ (k.1 = 2 → gL σ 5 5 = L64 k.2.1)
/-- what a token's taking changes -/
def ac (σ τ : St) : Prop := sN τ = sN σ ∧ sS τ = sS σ ∧ gN τ = gN σ ∧ gR τ = gR σ ∧ (∀ j k, ¬ (j = 5 ∧ 2 ≤ k ∧ k ≤ 4) → gI τ j k = gI σ j k) ∧ ∀ j k, ¬ (j = 5 ∧ k = 5) → gL τ j k = gL σ j k
theorem ac.rf (σ : St) : ac σ σ := ⟨rfl, rfl, rfl, rfl, fun _ _ _ => rfl, fun _ _ _ => rfl⟩
theorem ac.trans {σ τ υ : St} (h : ac σ τ) (g : ac τ υ) : ac σ υ := ⟨g.1.trans h.1, g.2.1.trans h.2.1, g.2.2.1.trans h.2.2.1, g.2.2.2.1.trans h.2.2.2.1, fun j k q => (g.2.2.2.2.1 j k q).trans (h.2.2.2.2.1 j k q), fun j k q => (g.2.2.2.2.2 j k q).trans (h.2.2.2.2.2 j k q)⟩
theorem ac_pI {σ : St} {k : Nat} (v : Int32) (h : 2 ≤ k ∧ k ≤ 4) : ac σ (pI σ 5 k v) := ⟨rfl, rfl, rfl, rfl, fun a b q => by rw [gI_pI, if_neg (by omega)], fun _ _ _ => rfl⟩
theorem ac_pL {σ : St} (v : Int64) : ac σ (pL σ 5 5 v) := ⟨rfl, rfl, rfl, rfl, fun _ _ _ => rfl, fun a b q => by rw [gL_pL, if_neg q]⟩
theorem ac.tx {σ τ : St} (h : ac σ τ) {t : Tx} (ht : txC σ t) : txC τ t := ⟨(h.2.2.2.2.1 5 1 (by omega)).trans ht.1, fun i hi => (h.2.2.2.2.1 6 i (by omega)).trans (ht.2 i hi)⟩
theorem i64_nI {n : Nat} (h : n < 2147483648) : (nI n).toInt64 = L64 n := by rw [i64_self, nI_toInt (by omega)]
section CTOK
variable {d : Nat}
theorem sp_signAt {σ : St} {Q : Option AV → St → Prop} {t : Tx} {a : Nat} (hln : LN σ) (ht : txC σ t) (hto : txOK t) (ha : a < t.1) (h : Q (some (aI (nI (t.2 a)))) σ) : Cl lay1 (d + 1) M_Te_signAt [aO 10 5, aI (nI a)] σ Q := by
  have h15 := hto.1
  refine bk_Te_signAt_0 _ ⟨fun z => absurd z (nI_pos (by omega)), fun _ => ⟨fun z => absurd z ?_, fun _ => ⟨fun _ => ⟨by rw [hln.at 6 1500 (by decide)]; exact inb_nI (by omega) (by omega), ?_⟩, fun z => absurd ?_ z⟩⟩⟩
  · rw [ht.1, nI_leI (by omega) (by omega)]; omega
  · rw [ix_nI (by omega), ht.2 a ha, bt_and (hto.2 a ha)]
    exact h
  · rw [show (1500 : Int32) = nI 1500 from rfl, nI_ltI (by omega) (by omega)]; omega
theorem sp_signAt_end {σ : St} {Q : Option AV → St → Prop} {t : Tx} {a : Nat} (ht : txC σ t) (hto : txOK t) (ha : t.1 ≤ a) (ha2 : a ≤ 1500) (h : Q (some (aI (-1))) σ) : Cl lay1 (d + 1) M_Te_signAt [aO 10 5, aI (nI a)] σ Q := by
  have h15 := hto.1
  refine bk_Te_signAt_0 _ ⟨fun _ => h, fun _ => ⟨fun _ => h, fun z => absurd ?_ z⟩⟩
  rw [ht.1, nI_leI (by omega) (by omega)]; omega
theorem sp_isBlank {σ : St} {Q : Option AV → St → Prop} {c : Nat} (hc : c < 256) (hy : isBl c = true → Q (some (aI 1)) σ) (hn : isBl c = false → Q (some (aI 0)) σ) : Cl lay1 (d + 1) M_Te_isBlank [aI (nI c)] σ Q := by
  refine bk_Te_isBlank_0 _ ?_
  rw [show (32 : Int32) = nI 32 from rfl, show (10 : Int32) = nI 10 from rfl, nI_eq (by omega) (by omega), nI_eq (by omega) (by omega)]
  refine ⟨fun c1 => ⟨b11, hy (decide_eq_true (Or.inl c1))⟩, fun c1 => ⟨fun c2 => ⟨b11, hy (decide_eq_true (Or.inr c2))⟩, fun c2 => ⟨b01, hn (decide_eq_false (by omega))⟩⟩⟩
theorem sp_isLetter {σ : St} {Q : Option AV → St → Prop} {c : Nat} (hc : c < 256) (hy : isLe c = true → Q (some (aI 1)) σ) (hn : isLe c = false → Q (some (aI 0)) σ) : Cl lay1 (d + 1) M_Te_isLetter [aI (nI c)] σ Q := by
  refine bk_Te_isLetter_0 _ ?_
  rw [show (97 : Int32) = nI 97 from rfl, show (122 : Int32) = nI 122 from rfl, nI_ltI (by omega) (by omega), nI_ltI (by omega) (by omega)]
  refine ⟨fun c1 => ⟨b01, hn (decide_eq_false (by omega))⟩, fun c1 => ⟨fun c2 => ⟨b01, hn (decide_eq_false (by omega))⟩, fun c2 => ⟨b11, hy (decide_eq_true (by omega))⟩⟩⟩
theorem sp_isFigure {σ : St} {Q : Option AV → St → Prop} {c : Nat} (hc : c < 256) (hy : isFi c = true → Q (some (aI 1)) σ) (hn : isFi c = false → Q (some (aI 0)) σ) : Cl lay1 (d + 1) M_Te_isFigure [aI (nI c)] σ Q := by
  refine bk_Te_isFigure_0 _ ?_
  rw [show (48 : Int32) = nI 48 from rfl, show (57 : Int32) = nI 57 from rfl, nI_ltI (by omega) (by omega), nI_ltI (by omega) (by omega)]
  refine ⟨fun c1 => ⟨b01, hn (decide_eq_false (by omega))⟩, fun c1 => ⟨fun c2 => ⟨b01, hn (decide_eq_false (by omega))⟩, fun c2 => ⟨b11, hy (decide_eq_true (by omega))⟩⟩⟩
theorem sp_alone {σ : St} {Q : Option AV → St → Prop} {c : Nat} (hc : c < 256) (hy : isAl c = true → Q (some (aI 1)) σ) (hn : isAl c = false → Q (some (aI 0)) σ) : Cl lay1 (d + 1) M_Te_standsAlone [aI (nI c)] σ Q := by
  have e : ∀ k : Nat, k < 256 → (nI c = nI k ↔ c = k) := fun k hk => nI_eq (by omega) (by omega)
  have y : ∀ k : Nat, k < 256 → isAl k = true → nI c = nI k → ((1 : Int32) = 0 ∨ (1 : Int32) = 1) ∧ Q (some (aI 1)) σ := fun k hk ha z => ⟨b11, hy (by rw [(e k hk).mp z]; exact ha)⟩
  have n : ∀ k : Nat, k < 256 → isAl k = false → nI c = nI k → ((0 : Int32) = 0 ∨ (0 : Int32) = 1) ∧ Q (some (aI 0)) σ := fun k hk ha z => ⟨b01, hn (by rw [(e k hk).mp z]; exact ha)⟩
  have m : ∀ k : Nat, k < 256 → ¬ nI c = nI k → c ≠ k := fun k hk z q => z ((e k hk).mpr q)
  refine bk_Te_standsAlone_0 _ ⟨y 40 (by omega) (by decide), fun q40 => ⟨y 41 (by omega) (by decide), fun q41 => ⟨y 42 (by omega) (by decide), fun q42 => ⟨n 43 (by omega) (by decide), fun _ => ⟨n 44 (by omega) (by decide), fun _ => ⟨y 45 (by omega) (by decide), fun q45 => ⟨n 46 (by omega) (by decide), fun _ => ⟨y 47 (by omega) (by decide), fun q47 => ⟨n 48 (by omega) (by decide), fun _ => ⟨n 49 (by omega) (by decide), fun _ => ⟨n 50 (by omega) (by decide), fun _ => ⟨n 51 (by omega) (by decide), fun _ => ⟨n 52 (by omega) (by decide), fun _ => ⟨n 53 (by omega) (by decide), fun _ => ⟨n 54 (by omega) (by decide), fun _ => ⟨n 55 (by omega) (by decide), fun _ => ⟨n 56 (by omega) (by decide), fun _ => ⟨n 57 (by omega) (by decide), fun _ => ⟨n 58 (by omega) (by decide), fun _ => ⟨y 59 (by omega) (by decide), fun q59 => ⟨n 60 (by omega) (by decide), fun _ => ⟨y 61 (by omega) (by decide), fun q61 => ⟨b01, hn (decide_eq_false ?_)⟩⟩⟩⟩⟩⟩⟩⟩⟩⟩⟩⟩⟩⟩⟩⟩⟩⟩⟩⟩⟩⟩⟩
  have h1 := m 40 (by omega) q40
  have h2 := m 41 (by omega) q41
  have h3 := m 42 (by omega) q42
  have h4 := m 45 (by omega) q45
  have h5 := m 47 (by omega) q47
  have h6 := m 59 (by omega) q59
  have h7 := m 61 (by omega) q61
  omega
theorem sp_skip_loop {t : Tx} (hto : txOK t) : ∀ (m a : Nat) (σ : St) (Q : Option AV → St → Prop), a + m = t.1 → LN σ → txC σ t → gI σ 5 4 = nI a → (∀ τ, ac σ τ → gI τ 5 4 = nI (spE isBl t a) → Q none τ) → Wp lay1 rtOf (Cl lay1 (d + 1)) k_Te_skipBlanks 0 Q (0, [aO 10 5], [], σ) := by
  have h15 := hto.1
  intro m
  induction m with
  | zero =>
    intro a σ Q hm hln ht h4 h
    refine bk_Te_skipBlanks_0 ⟨fun _ => h σ (ac.rf _) ?_, fun c => absurd ?_ c⟩
    · rw [spE_st (by omega)]; exact h4
    · rw [ht.1, h4, nI_leI (by omega) (by omega)]; omega
  | succ m ih =>
    intro a σ Q hm hln ht h4 h
    have ha : a < t.1 := by omega
    refine bk_Te_skipBlanks_0 ⟨fun c => absurd c ?_, fun _ => ?_⟩
    · rw [ht.1, h4, nI_leI (by omega) (by omega)]; omega
    rw [h4]
    refine sp_signAt hln ht hto ha ?_
    refine sp_isBlank (hto.2 a ha) (fun c => ⟨fun z => absurd z (by decide), fun _ => ?_⟩) (fun c => ⟨fun _ => h σ (ac.rf _) ?_, fun z => absurd rfl z⟩)
    · rw [h4, nI_1]
      have a1 := ac_pI (σ := σ) (k := 4) (nI (a + 1)) (by omega)
      refine ih (a + 1) _ Q (by omega) (hln.of rfl) (a1.tx ht) (by rw [gI_pI, if_pos ⟨rfl, rfl⟩]) (fun τ b1 b2 => h τ (a1.trans b1) ?_)
      rw [spE_go ha c]
      exact b2
    · rw [spE_st (fun z => by rw [c] at z; exact absurd z.2 (by decide))]
      exact h4
theorem sp_takeName_loop {t : Tx} {s : Nat} (hto : txOK t) : ∀ (m k : Nat) (σ : St) (Q : Option AV → St → Prop), s + k + m = t.1 → LN σ → txC σ t → gI σ 5 3 = nI s → gI σ 5 4 = nI (s + k) → gL σ 5 5 = L64 (encL 32 (lts t s k)) → (∀ τ, ac σ τ → gI τ 5 2 = (if spE isLe t (s + k) - s ≤ 8 then -3 else -2) → gI τ 5 3 = nI s → gI τ 5 4 = nI (spE isLe t (s + k)) → gL τ 5 5 = L64 (encL 32 (lts t s (spE isLe t (s + k) - s))) → Q none τ) → Wp lay1 rtOf (Cl lay1 (d + 1)) k_Te_takeName 0 Q (5, [aO 10 5], [], σ) := by
  have h15 := hto.1
  intro m
  induction m with
  | zero =>
    intro k σ Q hm hln ht h3 h4 h5 h
    have e : spE isLe t (s + k) = s + k := spE_st (by omega)
    rw [e, Nat.add_sub_cancel_left] at h
    refine bk_Te_takeName_5 ⟨fun _ => ?_, fun c => absurd ?_ c⟩
    · rw [h3, h4, pk_sub (by omega), Nat.add_sub_cancel_left, show (8 : Int32) = nI 8 from rfl, nI_ltI (by omega) (by omega)]
      refine ⟨fun c => h _ (ac_pI _ (by omega)) ?_ ?_ ?_ h5, fun c => h _ (ac_pI _ (by omega)) ?_ ?_ ?_ h5⟩
      · rw [gI_pI, if_pos ⟨rfl, rfl⟩, if_neg (by omega)]
      · rw [gI_pI, if_neg (by omega)]; exact h3
      · rw [gI_pI, if_neg (by omega)]; exact h4
      · rw [gI_pI, if_pos ⟨rfl, rfl⟩, if_pos (by omega)]
      · rw [gI_pI, if_neg (by omega)]; exact h3
      · rw [gI_pI, if_neg (by omega)]; exact h4
    · rw [ht.1, h4, nI_leI (by omega) (by omega)]; omega
  | succ m ih =>
    intro k σ Q hm hln ht h3 h4 h5 h
    have ha : s + k < t.1 := by omega
    refine bk_Te_takeName_5 ⟨fun c => absurd c ?_, fun _ => ?_⟩
    · rw [ht.1, h4, nI_leI (by omega) (by omega)]; omega
    rw [h4]
    refine sp_signAt hln ht hto ha ?_
    refine sp_isLetter (hto.2 _ ha) (fun c => ⟨fun z => absurd z (by decide), fun _ => ?_⟩) (fun c => ⟨fun _ => ?_, fun z => absurd rfl z⟩)
    · rw [h4]
      refine sp_signAt hln ht hto ha ?_
      refine bk_Te_letterWorth_0 _ ?_
      have hc := of_decide_eq_true c
      have h256 := hto.2 _ ha
      have ew : nI (t.2 (s + k)) - (97 : Int32) + 1 = nI (t.2 (s + k) - 96) := by
        rw [show (97 : Int32) = nI 97 from rfl, pk_sub (by omega), nI_1]
        congr 1
        omega
      show Wp lay1 rtOf (Cl lay1 (d + 1)) k_Te_takeName 0 Q (5, [aO 10 5], [], (pI (pL σ 5 5 (((gL σ 5 5) * (32 : Int64)) + (nI (t.2 (s + k)) - (97 : Int32) + 1).toInt64)) 5 4 ((gI (pL σ 5 5 (((gL σ 5 5) * (32 : Int64)) + (nI (t.2 (s + k)) - (97 : Int32) + 1).toInt64)) 5 4) + (1 : Int32))))
      have e4 : ∀ v, gI (pL σ 5 5 v) 5 4 = nI (s + k) := fun v => h4
      rw [e4, nI_1, ew, i64_nI (by omega), h5, show (32 : Int64) = L64 32 by decide, L64_mul, L64_add]
      have a1 : ac σ (pI (pL σ 5 5 (L64 ((encL 32 (lts t s k) : Nat) * 32 + (t.2 (s + k) - 96 : Nat)))) 5 4 (nI (s + k + 1))) := (ac_pL _).trans (ac_pI _ (by omega))
      refine ih (k + 1) _ Q (by omega) (hln.of rfl) (a1.tx ht) ?_ ?_ ?_ (fun τ b1 b2 b3 b4 b5 => h τ (a1.trans b1) ?_ b3 ?_ ?_)
      · rw [gI_pI, if_neg (by omega)]; exact h3
      · rw [gI_pI, if_pos ⟨rfl, rfl⟩]; rfl
      · show gL (pL σ 5 5 _) 5 5 = _
        rw [gL_pL, if_pos ⟨rfl, rfl⟩, lts_succ, encL_app]
        congr 1
      · rw [spE_go ha c]; exact b2
      · rw [spE_go ha c]; exact b4
      · rw [spE_go ha c]; exact b5
    · have e : spE isLe t (s + k) = s + k := spE_st (fun z => by rw [c] at z; exact absurd z.2 (by decide))
      rw [e, Nat.add_sub_cancel_left] at h
      show (_ → _) ∧ (_ → _)
      rw [h3, h4, pk_sub (by omega), Nat.add_sub_cancel_left, show (8 : Int32) = nI 8 from rfl, nI_ltI (by omega) (by omega)]
      refine ⟨fun c => h _ (ac_pI _ (by omega)) ?_ ?_ ?_ h5, fun c => h _ (ac_pI _ (by omega)) ?_ ?_ ?_ h5⟩
      · rw [gI_pI, if_pos ⟨rfl, rfl⟩, if_neg (by omega)]
      · rw [gI_pI, if_neg (by omega)]; exact h3
      · rw [gI_pI, if_neg (by omega)]; exact h4
      · rw [gI_pI, if_pos ⟨rfl, rfl⟩, if_pos (by omega)]
      · rw [gI_pI, if_neg (by omega)]; exact h3
      · rw [gI_pI, if_neg (by omega)]; exact h4
theorem sp_takeNum_loop {t : Tx} {s : Nat} (hto : txOK t) : ∀ (m k : Nat) (σ : St) (Q : Option AV → St → Prop), s + k + m = t.1 → LN σ → txC σ t → gI σ 5 3 = nI s → gI σ 5 4 = nI (s + k) → gL σ 5 5 = L64 (num t s k) → (∀ τ, ac σ τ → gI τ 5 2 = (if spE isFi t (s + k) - s ≤ 4 then -4 else -2) → gI τ 5 3 = nI s → gI τ 5 4 = nI (spE isFi t (s + k)) → gL τ 5 5 = L64 (num t s (spE isFi t (s + k) - s)) → Q none τ) → Wp lay1 rtOf (Cl lay1 (d + 1)) k_Te_takeNumber 0 Q (5, [aO 10 5], [], σ) := by
  have h15 := hto.1
  intro m
  induction m with
  | zero =>
    intro k σ Q hm hln ht h3 h4 h5 h
    have e : spE isFi t (s + k) = s + k := spE_st (by omega)
    rw [e, Nat.add_sub_cancel_left] at h
    refine bk_Te_takeNumber_5 ⟨fun _ => ?_, fun c => absurd ?_ c⟩
    · rw [h3, h4, pk_sub (by omega), Nat.add_sub_cancel_left, show (4 : Int32) = nI 4 from rfl, nI_ltI (by omega) (by omega)]
      refine ⟨fun c => h _ (ac_pI _ (by omega)) ?_ ?_ ?_ h5, fun c => h _ (ac_pI _ (by omega)) ?_ ?_ ?_ h5⟩
      · rw [gI_pI, if_pos ⟨rfl, rfl⟩, if_neg (by omega)]
      · rw [gI_pI, if_neg (by omega)]; exact h3
      · rw [gI_pI, if_neg (by omega)]; exact h4
      · rw [gI_pI, if_pos ⟨rfl, rfl⟩, if_pos (by omega)]; rfl
      · rw [gI_pI, if_neg (by omega)]; exact h3
      · rw [gI_pI, if_neg (by omega)]; exact h4
    · rw [ht.1, h4, nI_leI (by omega) (by omega)]; omega
  | succ m ih =>
    intro k σ Q hm hln ht h3 h4 h5 h
    have ha : s + k < t.1 := by omega
    refine bk_Te_takeNumber_5 ⟨fun c => absurd c ?_, fun _ => ?_⟩
    · rw [ht.1, h4, nI_leI (by omega) (by omega)]; omega
    rw [h4]
    refine sp_signAt hln ht hto ha ?_
    refine sp_isFigure (hto.2 _ ha) (fun c => ⟨fun z => absurd z (by decide), fun _ => ?_⟩) (fun c => ⟨fun _ => ?_, fun z => absurd rfl z⟩)
    · rw [h4]
      refine sp_signAt hln ht hto ha ?_
      have hc := of_decide_eq_true c
      have h256 := hto.2 _ ha
      have ew : nI (t.2 (s + k)) - (48 : Int32) = nI (t.2 (s + k) - 48) := by
        rw [show (48 : Int32) = nI 48 from rfl, pk_sub (by omega)]
      show Wp lay1 rtOf (Cl lay1 (d + 1)) k_Te_takeNumber 0 Q (5, [aO 10 5], [], (pI (pL σ 5 5 (((gL σ 5 5) * (10 : Int64)) + (nI (t.2 (s + k)) - (48 : Int32)).toInt64)) 5 4 ((gI (pL σ 5 5 (((gL σ 5 5) * (10 : Int64)) + (nI (t.2 (s + k)) - (48 : Int32)).toInt64)) 5 4) + (1 : Int32))))
      have e4 : ∀ v, gI (pL σ 5 5 v) 5 4 = nI (s + k) := fun v => h4
      rw [e4, nI_1, ew, i64_nI (by omega), h5, show (10 : Int64) = L64 10 by decide, L64_mul, L64_add]
      have a1 : ac σ (pI (pL σ 5 5 (L64 ((num t s k : Nat) * 10 + (t.2 (s + k) - 48 : Nat)))) 5 4 (nI (s + k + 1))) := (ac_pL _).trans (ac_pI _ (by omega))
      refine ih (k + 1) _ Q (by omega) (hln.of rfl) (a1.tx ht) ?_ ?_ ?_ (fun τ b1 b2 b3 b4 b5 => h τ (a1.trans b1) ?_ b3 ?_ ?_)
      · rw [gI_pI, if_neg (by omega)]; exact h3
      · rw [gI_pI, if_pos ⟨rfl, rfl⟩]; rfl
      · show gL (pL σ 5 5 _) 5 5 = _
        rw [gL_pL, if_pos ⟨rfl, rfl⟩]
        congr 1
      · rw [spE_go ha c]; exact b2
      · rw [spE_go ha c]; exact b4
      · rw [spE_go ha c]; exact b5
    · have e : spE isFi t (s + k) = s + k := spE_st (fun z => by rw [c] at z; exact absurd z.2 (by decide))
      rw [e, Nat.add_sub_cancel_left] at h
      show (_ → _) ∧ (_ → _)
      rw [h3, h4, pk_sub (by omega), Nat.add_sub_cancel_left, show (4 : Int32) = nI 4 from rfl, nI_ltI (by omega) (by omega)]
      refine ⟨fun c => h _ (ac_pI _ (by omega)) ?_ ?_ ?_ h5, fun c => h _ (ac_pI _ (by omega)) ?_ ?_ ?_ h5⟩
      · rw [gI_pI, if_pos ⟨rfl, rfl⟩, if_neg (by omega)]
      · rw [gI_pI, if_neg (by omega)]; exact h3
      · rw [gI_pI, if_neg (by omega)]; exact h4
      · rw [gI_pI, if_pos ⟨rfl, rfl⟩, if_pos (by omega)]; rfl
      · rw [gI_pI, if_neg (by omega)]; exact h3
      · rw [gI_pI, if_neg (by omega)]; exact h4
theorem sp_advance {σ : St} {Q : Option AV → St → Prop} {t : Tx} {a : Nat} (hln : LN σ) (ht : txC σ t) (hto : txOK t) (ha : a ≤ t.1) (h4 : gI σ 5 4 = nI a) (h : ∀ τ, ac σ τ → tkC τ (tok t a) → Q none τ) : Cl lay1 (d + 3) M_Te_advance [aO 10 5] σ Q := by
  have h15 := hto.1
  refine bk_Te_advance_0 ?_
  show Wp lay1 rtOf (Cl lay1 (d + 1)) k_Te_skipBlanks 0 _ (0, [aO 10 5], [], σ)
  refine sp_skip_loop hto (t.1 - a) a σ _ (by omega) hln ht h4 (fun τ1 a1 g4 => ?_)
  have s1 := spE_ge isBl t a
  have s2 := spE_le isBl ha
  unfold tok at h
  generalize hs : spE isBl t a = s at h g4 s1 s2
  have a2 : ac σ (pI τ1 5 3 (gI τ1 5 4)) := a1.trans (ac_pI _ (by omega))
  have g3 : gI (pI τ1 5 3 (gI τ1 5 4)) 5 3 = nI s := by rw [gI_pI, if_pos ⟨rfl, rfl⟩]; exact g4
  have g4' : gI (pI τ1 5 3 (gI τ1 5 4)) 5 4 = nI s := by rw [gI_pI, if_neg (by omega)]; exact g4
  show Cl lay1 (d + 2) M_Te_signAt [aO 10 5, aI (gI (pI τ1 5 3 (gI τ1 5 4)) 5 4)] (pI τ1 5 3 (gI τ1 5 4)) _
  rw [g4']
  generalize pI τ1 5 3 (gI τ1 5 4) = τ2 at a2 g3 g4'
  have ln2 := hln.of a2.2.2.1
  have tx2 := a2.tx ht
  by_cases c : t.1 ≤ s
  · rw [if_pos c] at h
    refine sp_signAt_end tx2 hto c (by omega) ⟨fun _ => ?_, fun z => absurd rfl z⟩
    refine h _ (a2.trans (ac_pI _ (by omega))) ⟨?_, ?_, ?_, fun z => absurd z (by show ¬ 0 = 1; omega), fun z => absurd z (by show ¬ 0 = 2; omega)⟩
    · rw [gI_pI, if_pos ⟨rfl, rfl⟩]; rfl
    · rw [gI_pI, if_neg (by omega)]; exact g3
    · rw [gI_pI, if_neg (by omega)]; exact g4'
  rw [if_neg c] at h
  have hlt : s < t.1 := by omega
  have h256 := hto.2 s hlt
  refine sp_signAt ln2 tx2 hto hlt ⟨fun z => absurd z ?_, fun _ => ?_⟩
  · intro z
    have := congrArg Int32.toInt z
    rw [nI_toInt (by omega)] at this
    have e : (-1 : Int32).toInt = -1 := by decide
    omega
  refine sp_isLetter h256 (fun c1 => ⟨fun z => absurd z (by decide), fun _ => ?_⟩) (fun c1 => ⟨fun _ => ?_, fun z => absurd rfl z⟩)
  · rw [if_pos c1] at h
    refine bk_Te_takeName_0 ?_
    have a3 := a2.trans (ac_pL (σ := τ2) 0)
    refine sp_takeName_loop (s := s) hto (t.1 - s) 0 (pL τ2 5 5 0) _ (by omega) (ln2.of rfl) ((ac_pL 0).tx tx2) g3 g4' (by rw [gL_pL, if_pos ⟨rfl, rfl⟩]; rfl) (fun τ b1 b2 b3 b4 b5 => ?_)
    refine h τ (a3.trans b1) ⟨?_, b3, b4, fun _ => b5, fun z => absurd z ?_⟩
    · rw [b2]
      show _ = ckd ((if _ then 1 else 4), _)
      by_cases q : spE isLe t s - s ≤ 8
      · rw [if_pos (show spE isLe t (s + 0) - s ≤ 8 from q), if_pos q]; rfl
      · rw [if_neg (show ¬ spE isLe t (s + 0) - s ≤ 8 from q), if_neg q]; rfl
    · show ¬ (if _ then 1 else 4) = 2
      split <;> omega
  rw [if_neg (by rw [c1]; decide)] at h
  refine sp_isFigure h256 (fun c2 => ⟨fun z => absurd z (by decide), fun _ => ?_⟩) (fun c2 => ⟨fun _ => ?_, fun z => absurd rfl z⟩)
  · rw [if_pos c2] at h
    refine bk_Te_takeNumber_0 ?_
    have a3 := a2.trans (ac_pL (σ := τ2) 0)
    refine sp_takeNum_loop (s := s) hto (t.1 - s) 0 (pL τ2 5 5 0) _ (by omega) (ln2.of rfl) ((ac_pL 0).tx tx2) g3 g4' (by rw [gL_pL, if_pos ⟨rfl, rfl⟩]; rfl) (fun τ b1 b2 b3 b4 b5 => ?_)
    refine h τ (a3.trans b1) ⟨?_, b3, b4, fun z => absurd z ?_, fun _ => b5⟩
    · rw [b2]
      show _ = ckd ((if _ then 2 else 4), _)
      by_cases q : spE isFi t s - s ≤ 4
      · rw [if_pos (show spE isFi t (s + 0) - s ≤ 4 from q), if_pos q]; rfl
      · rw [if_neg (show ¬ spE isFi t (s + 0) - s ≤ 4 from q), if_neg q]; rfl
    · show ¬ (if _ then 2 else 4) = 1
      split <;> omega
  rw [if_neg (by rw [c2]; decide)] at h
  refine sp_alone h256 (fun c3 => ⟨fun z => absurd z (by decide), fun _ => ?_⟩) (fun c3 => ⟨fun _ => ?_, fun z => absurd rfl z⟩)
  · rw [if_pos c3] at h
    have e4 : gI (pI τ2 5 2 (nI (t.2 s))) 5 4 = nI s := by rw [gI_pI, if_neg (by omega)]; exact g4'
    rw [e4, nI_1]
    refine h _ ((a2.trans (ac_pI _ (by omega))).trans (ac_pI _ (by omega))) ⟨?_, ?_, ?_, fun z => absurd z (by show ¬ 3 = 1; omega), fun z => absurd z (by show ¬ 3 = 2; omega)⟩
    · rw [gI_pI, if_neg (by omega), gI_pI, if_pos ⟨rfl, rfl⟩]; rfl
    · rw [gI_pI, if_neg (by omega), gI_pI, if_neg (by omega)]; exact g3
    · rw [gI_pI, if_pos ⟨rfl, rfl⟩]
  · rw [if_neg (by rw [c3]; decide)] at h
    have e4 : gI (pI τ2 5 2 (-2)) 5 4 = nI s := by rw [gI_pI, if_neg (by omega)]; exact g4'
    rw [e4, nI_1]
    refine h _ ((a2.trans (ac_pI _ (by omega))).trans (ac_pI _ (by omega))) ⟨?_, ?_, ?_, fun z => absurd z (by show ¬ 4 = 1; omega), fun z => absurd z (by show ¬ 4 = 2; omega)⟩
    · rw [gI_pI, if_neg (by omega), gI_pI, if_pos ⟨rfl, rfl⟩]; rfl
    · rw [gI_pI, if_neg (by omega), gI_pI, if_neg (by omega)]; exact g3
    · rw [gI_pI, if_pos ⟨rfl, rfl⟩]
end CTOK
