/-! ===== LAYER 3, F: the component's reader: lines end, brackets, the switch ===== -/
section CCLOSE
variable {d : Nat}
/-- the row's PARTS are laid into a line's own array -/
theorem sp_liCopy {N P s : Nat} (hN : 95 ≤ N) (hP : 95 ≤ P) (hs : s ≤ 80) : ∀ (m k : Nat) (u1 u2 u4 : AV) (σ : St) (Q : Option AV → St → Prop), k + m = s → LN σ → gI σ 7 1 = nI s → gR σ N 1 = P → N ≠ P → gN σ P = s → (∀ i, i < k → gR σ P i = gR σ 8 i) → (∀ τ, sN τ = sN σ → sS τ = sS σ → gN τ = gN σ → gI τ = gI σ → gL τ = gL σ → (∀ j i, j ≠ P → gR τ j i = gR σ j i) → (∀ i, i < s → gR τ P i = gR σ 8 i) → Q none τ) → Wp lay1 rtOf (Cl lay1 d) k_Li_init 0 Q (29, [aO 2 N, u1, u2, aO 9 7, u4, aI (nI k)], [], σ) := by
  intro m
  induction m with
  | zero =>
    intro k u1 u2 u4 σ Q hk hln h7 hr hne hgn hc h
    refine bk_Li_init_29 _ _ _ _ _ ⟨fun _ => h σ rfl rfl rfl rfl rfl (fun _ _ _ => rfl) (fun i hi => hc i (by omega)), fun c => absurd ?_ c⟩
    rw [h7]
    exact (nI_leI (by omega) (by omega)).mpr (by omega)
  | succ m ih =>
    intro k u1 u2 u4 σ Q hk hln h7 hr hne hgn hc h
    have ed : ldR lay1 σ N 1 = P := (ldR_hi σ 1 hN).trans hr
    refine bk_Li_init_29 _ _ _ _ _ ⟨fun c => absurd c ?_, fun _ => ?_⟩
    · rw [h7, nI_leI (by omega) (by omega)]; omega
    rw [ed, ix_nI (by omega), nI_1]
    refine nn_of (by omega) ⟨by rw [hln.at 8 80 (by decide)]; exact inb_nI (by omega) (by omega), nn_of (by omega) ⟨⟨by rw [hgn]; exact inb_nI (by omega) (by omega), layHi _ _ hP⟩, ?_⟩⟩
    have e8 : ∀ i, gR (pR σ P k (gR σ 8 k)) 8 i = gR σ 8 i := fun i => by rw [gR_pR, if_neg (by omega)]
    refine ih (k + 1) u1 u2 _ (pR σ P k (gR σ 8 k)) Q (by omega) (hln.of rfl) h7 (by rw [gR_pR, if_neg (by omega)]; exact hr) hne hgn (fun i hi => ?_) (fun τ b1 b2 b3 b4 b5 b6 b7 => h τ b1 b2 b3 b4 b5 (fun j i hj => (b6 j i hj).trans (by rw [gR_pR, if_neg (by omega)])) (fun i hi => (b7 i hi).trans (e8 i)))
    rw [e8, gR_pR]
    by_cases q : i = k
    · rw [if_pos ⟨rfl, q⟩, q]
    · rw [if_neg (by omega)]; exact hc i (by omega)
theorem sp_takeClose {σ : St} {Q : Option AV → St → Prop} {b : Ba} (hln : LN σ) (h95 : 95 ≤ sN σ) (h6 : gI σ 4 6 = 3) (hb : baC σ b) (hbo : baOK b) (h : stQ 2 83 σ Q (stClose b)) : Cl lay1 (d + 3) M_Re_takeClose [aO 6 4] σ Q := by
  obtain ⟨hl, hw, ⟨ho1, ho2⟩, hnm⟩ := id hb
  have h80 := hbo.2.1.1
  have hl6 := hbo.2.2.1.1
  refine bk_Re_takeClose_0 ?_
  unfold stClose at h
  cases e : b.2.2.1 with
  | nil =>
    rw [e] at h ho1
    have o0 : gI σ 4 4 = 0 := ho1
    refine ⟨fun _ => ⟨fun c => ?_, fun c => ?_⟩, fun c => absurd (by rw [o0]; decide) c⟩
    · have hm : b.2.1.2 = false := by
        cases em : b.2.1.2 with
        | false => rfl
        | true => rw [hw.2.1 em] at c; exact absurd c (by decide)
      have h : stQ 2 83 σ Q (cite (b.2.1.2 = true) (.inl 4) (.inr (((b.2.2.2, b.2.1.1) :: b.1, b.2.1, [], b.2.2.2), 0, 0, 0, 0, 0))) := h
      rw [cite_neg (by rw [hm]; decide)] at h
      obtain ⟨N, hN⟩ : ∃ N, sN σ = N := ⟨_, rfl⟩
      rw [hN, nF2']
      refine nn_of (by omega) ?_
      have g47 : gL (nw σ 2 3) 4 7 = L64 (encL 32 b.2.2.2 : Nat) := by rw [gL_nw, if_neg (by omega)]; exact hnm
      have g45 : gR (nw σ 2 3) 4 5 = gR σ 4 5 := by rw [gR_nw, if_neg (by omega)]
      rw [g47, g45]
      have a0 : rdT σ (pR (pL (nw σ 2 3) N 0 (L64 (encL 32 b.2.2.2 : Nat))) N 2 (gR σ 4 5)) := ((rdT_nw 2 3 h95).pL 0 _ (by omega) h95).pR 2 _ (by omega) h95
      have s0 : sN (pR (pL (nw σ 2 3) N 0 (L64 (encL 32 b.2.2.2 : Nat))) N 2 (gR σ 4 5)) = N + 1 := by show sN σ + 1 = _; omega
      have t0 : sS (pR (pL (nw σ 2 3) N 0 (L64 (encL 32 b.2.2.2 : Nat))) N 2 (gR σ 4 5)) = sS σ + 3 := rfl
      have l0 : gL (pR (pL (nw σ 2 3) N 0 (L64 (encL 32 b.2.2.2 : Nat))) N 2 (gR σ 4 5)) N 0 = L64 (encL 32 b.2.2.2 : Nat) := by
        show gL (pL (nw σ 2 3) N 0 _) N 0 = _
        rw [gL_pL, if_pos ⟨rfl, rfl⟩]
      have r0 : gR (pR (pL (nw σ 2 3) N 0 (L64 (encL 32 b.2.2.2 : Nat))) N 2 (gR σ 4 5)) N 2 = gR σ 4 5 := by rw [gR_pR, if_pos ⟨rfl, rfl⟩]
      have i0 : gI (pR (pL (nw σ 2 3) N 0 (L64 (encL 32 b.2.2.2 : Nat))) N 2 (gR σ 4 5)) 7 1 = nI b.2.1.1.length := by
        show gI (nw σ 2 3) 7 1 = _
        rw [gI_nw, if_neg (by omega)]; exact hw.1
      have q0 : ∀ i, gR (pR (pL (nw σ 2 3) N 0 (L64 (encL 32 b.2.2.2 : Nat))) N 2 (gR σ 4 5)) 8 i = gR σ 8 i := fun i => by
        rw [gR_pR, if_neg (by omega)]
        show gR (nw σ 2 3) 8 i = _
        rw [gR_nw, if_neg (by omega)]
      refine bk_Li_init_0 _ _ _ (nn_of (by omega) (nn_of (by omega) (nn_of (by omega) ⟨layHi _ _ (by omega), ?_⟩)))
      generalize pR (pL (nw σ 2 3) N 0 (L64 (encL 32 b.2.2.2 : Nat))) N 2 (gR σ 4 5) = σ0 at a0 s0 t0 l0 r0 i0 q0
      rw [i0, s0, nI_toInt (by omega), ix_nI (by omega)]
      refine ⟨⟨by omega, by omega⟩, nn_of (by omega) ⟨layHi _ _ (by omega), ?_⟩⟩
      have a1 : rdT σ (pR (nw σ0 20 b.2.1.1.length) N 1 (N + 1)) := (a0.nw 20 _ h95).pR 1 _ (by omega) h95
      have s1 : sN (pR (nw σ0 20 b.2.1.1.length) N 1 (N + 1)) = N + 2 := by show sN σ0 + 1 = _; omega
      have t1 : sS (pR (nw σ0 20 b.2.1.1.length) N 1 (N + 1)) = sS σ + 3 + b.2.1.1.length := by show sS σ0 + b.2.1.1.length = _; omega
      have l1 : gL (pR (nw σ0 20 b.2.1.1.length) N 1 (N + 1)) N 0 = L64 (encL 32 b.2.2.2 : Nat) := by
        show gL (nw σ0 20 b.2.1.1.length) N 0 = _
        rw [gL_nw, if_neg (by omega)]; exact l0
      have r1 : gR (pR (nw σ0 20 b.2.1.1.length) N 1 (N + 1)) N 1 = N + 1 := by rw [gR_pR, if_pos ⟨rfl, rfl⟩]
      have r2 : gR (pR (nw σ0 20 b.2.1.1.length) N 1 (N + 1)) N 2 = gR σ 4 5 := by
        rw [gR_pR, if_neg (by omega)]
        show gR (nw σ0 20 b.2.1.1.length) N 2 = _
        rw [gR_nw, if_neg (by omega)]; exact r0
      have n1 : gN (pR (nw σ0 20 b.2.1.1.length) N 1 (N + 1)) (N + 1) = b.2.1.1.length := by
        show gN (nw σ0 20 b.2.1.1.length) (N + 1) = _
        rw [gN_nw, if_pos s0.symm]
      have i1 : gI (pR (nw σ0 20 b.2.1.1.length) N 1 (N + 1)) 7 1 = nI b.2.1.1.length := by
        show gI (nw σ0 20 b.2.1.1.length) 7 1 = _
        rw [gI_nw, if_neg (by omega)]; exact i0
      have q1 : ∀ i, gR (pR (nw σ0 20 b.2.1.1.length) N 1 (N + 1)) 8 i = gR σ 8 i := fun i => by
        rw [gR_pR, if_neg (by omega)]
        show gR (nw σ0 20 b.2.1.1.length) 8 i = _
        rw [gR_nw, if_neg (by omega)]; exact q0 i
      generalize pR (nw σ0 20 b.2.1.1.length) N 1 (N + 1) = σ1 at a1 s1 t1 l1 r1 r2 n1 i1 q1
      refine sp_liCopy (N := N) (P := N + 1) (s := b.2.1.1.length) (by omega) (by omega) h80 b.2.1.1.length 0 _ _ _ σ1 _ (by omega) (a1.LN hln) i1 r1 (by omega) n1 (fun i hi => absurd hi (by omega)) (fun σ2 b1 b2 b3 b4 b5 b6 b7 => ⟨Or.inl (by decide), ?_⟩)
      have hh : he σ σ2 := ⟨by rw [b1, s1]; omega, fun j h1 h2 => by
        obtain ⟨x1, x2, x3, x4⟩ := a1.1.2 j h1 h2
        exact ⟨fun k => by rw [b4]; exact x1 k, fun k => by rw [b5]; exact x2 k, fun k => (b6 j k (by omega)).trans (x3 k), by rw [b3]; exact x4⟩⟩
      have a2 : rdT σ (pI (pR σ2 4 5 N) 4 6 0) := ⟨⟨hh.1, fun j h1 h2 => by
        obtain ⟨x1, x2, x3, x4⟩ := hh.2 j h1 h2
        exact ⟨fun k => by rw [gI_pI, if_neg (by omega)]; exact x1 k, x2, fun k => by show gR (pR σ2 4 5 N) j k = _; rw [gR_pR, if_neg (by omega)]; exact x3 k, x4⟩⟩,
        fun j hj => by show gN σ2 j = _; rw [b3]; exact a1.2.1 j hj,
        fun j k h1 h2 h3 => by show gR (pR σ2 4 5 N) j k = _; rw [gR_pR, if_neg (by omega), b6 j k (by omega)]; exact a1.2.2.1 j k h1 h2 h3,
        fun j k h1 h2 h3 h4 h5 => by rw [gI_pI, if_neg (by omega)]; show gI σ2 j k = _; rw [b4]; exact a1.2.2.2.1 j k h1 h2 h3 h4 h5,
        fun j k h1 h2 => by show gL σ2 j k = _; rw [b5]; exact a1.2.2.2.2 j k h1 h2⟩
      have hfin := (h _ a2 (by show sN σ2 ≤ _; omega) (by show sS σ2 ≤ _; omega)).2 _ rfl
      refine hfin ⟨by rw [gI_pI, if_pos ⟨rfl, rfl⟩]; rfl, ?_, fun z => absurd rfl z, fun z => absurd z (by show ¬ (0 = 4 ∨ 0 = 5); omega), fun z => absurd z (by show ¬ (0 = 6 ∨ 0 = 7); omega), fun z => absurd z (by show ¬ (0 = 8 ∨ 0 = 9); omega)⟩
      have eN : gR (pI (pR σ2 4 5 N) 4 6 0) 4 5 = N := by show gR (pR σ2 4 5 N) 4 5 = N; rw [gR_pR, if_pos ⟨rfl, rfl⟩]
      have eR : ∀ j k, 95 ≤ j → gR (pI (pR σ2 4 5 N) 4 6 0) j k = gR σ2 j k := fun j k hj => by show gR (pR σ2 4 5 N) j k = _; rw [gR_pR, if_neg (by omega)]
      have eN1 : gR (pI (pR σ2 4 5 N) 4 6 0) N 1 = N + 1 := by rw [eR N 1 (by omega), b6 N 1 (by omega)]; exact r1
      rw [eN]
      refine ⟨by omega, by show N < sN σ2; omega, by show gL σ2 N 0 = _; rw [b5]; exact l1, by rw [eN1]; omega, by rw [eN1]; show N + 1 < sN σ2; omega, by rw [eN1]; show gN σ2 (N + 1) = _; rw [b3]; exact n1, fun i q hq => ?_, ?_⟩
      · rw [eN1, eR (N + 1) i (by omega), b7 i (by have := (List.getElem?_eq_some_iff.mp hq).1; exact this), q1]
        exact a2.1.pt (hw.2.2.2 i q hq)
      · rw [eR N 2 (by omega), b6 N 2 (by omega), r2]
        exact a2.1.lines hl
    · have hm : b.2.1.2 = true := by
        cases em : b.2.1.2 with
        | true => rfl
        | false => exact absurd (hw.2.2.1 em).1 c
      have h : stQ 2 83 σ Q (cite (b.2.1.2 = true) (.inl 4) (.inr (((b.2.2.2, b.2.1.1) :: b.1, b.2.1, [], b.2.2.2), 0, 0, 0, 0, 0))) := h
      rw [cite_pos hm] at h
      exact h.l rfl
  | cons q r =>
    rw [e] at h ho1 ho2 hl6
    have h : stQ 2 83 σ Q (.inr ((b.1, rrep b.2.1 q.1 q.2, r, b.2.2.2), 3, 0, 0, 0, 0)) := h
    have ho1 : gI σ 4 4 = nI (r.length + 1) := ho1
    have hl6 : r.length + 1 ≤ 6 := hl6
    obtain ⟨hq1, hq2, hq3⟩ := hbo.2.2.1.2 q (by rw [e]; exact List.mem_cons_self)
    have hrev : (q :: r).reverse[r.length]? = some q := by
      rw [List.reverse_cons, List.getElem?_append_right (by rw [List.length_reverse]; exact Nat.le_refl _), List.length_reverse, Nat.sub_self]
      rfl
    obtain ⟨e9, e10⟩ := ho2 _ _ hrev
    refine ⟨fun c => absurd c ?_, fun _ => ?_⟩
    · rw [ho1, show (0 : Int32) = nI 0 from rfl, nI_leI (by omega) (by omega)]; omega
    rw [ho1, nI_pred]
    have a1 := rdT_4 (σ := σ) (k := 4) (nI r.length) (by omega)
    have g44 : gI (pI σ 4 4 (nI r.length)) 4 4 = nI r.length := by rw [gI_pI, if_pos ⟨rfl, rfl⟩]
    have g9 : gI (pI σ 4 4 (nI r.length)) 9 r.length = nI q.1 := by rw [gI_pI, if_neg (by omega)]; exact e9
    have g10 : gI (pI σ 4 4 (nI r.length)) 10 r.length = nI q.2 := by rw [gI_pI, if_neg (by omega)]; exact e10
    have g46 : gI (pI σ 4 4 (nI r.length)) 4 6 = nI 3 := by rw [gI_pI, if_neg (by omega)]; exact h6
    have hb1 : baC (pI σ 4 4 (nI r.length)) (b.1, b.2.1, r, b.2.2.2) := by
      refine ⟨a1.1.lines hl, ⟨?_, fun z => ?_, fun z => ?_, fun i x hx => a1.1.pt (hw.2.2.2 i x hx)⟩, ⟨g44, fun i x hx => ?_⟩, hnm⟩
      · rw [gI_pI, if_neg (by omega)]; exact hw.1
      · rw [gI_pI, if_neg (by omega)]; exact hw.2.1 z
      · rw [gI_pI, if_neg (by omega), gI_pI, if_neg (by omega), gI_pI, if_neg (by omega)]; exact hw.2.2.1 z
      · have hx' : (q :: r).reverse[i]? = some x := by
          rw [List.reverse_cons, List.getElem?_append_left (List.getElem?_eq_some_iff.mp hx).1]
          exact hx
        rw [gI_pI, if_neg (by omega), gI_pI, if_neg (by omega)]
        exact ho2 i x hx'
    have s1 : sN (pI σ 4 4 (nI r.length)) = sN σ := rfl
    have t1 : sS (pI σ 4 4 (nI r.length)) = sS σ := rfl
    have ln1 := a1.LN hln
    generalize pI σ 4 4 (nI r.length) = σ1 at a1 g44 g9 g10 g46 hb1 s1 t1 ln1
    rw [g44, ix_nI (by omega), g9, g10]
    refine ⟨by rw [ln1.at 9 6 (by decide)]; exact inb_nI (by omega) (by omega), by rw [ln1.at 10 6 (by decide)]; exact inb_nI (by omega) (by omega), ?_⟩
    refine sp_repeat (d := d) ln1 hb1.2.1 hbo.2.1 ⟨hq2, hq3⟩ hq1 (fun τ a hw' => ?_)
    have hb2 := hb1.row a hw'
    refine (h τ (a1.trans a.rd) (by rw [a.1]; omega) (by rw [a.2.1]; omega)).2 _ rfl (psC_b hb2 ?_ (by omega) _ _ _ _)
    rw [a.2.2.2.2.2 4 6 (by omega)]
    exact g46
theorem sp_closes {σ : St} {Q : Option AV → St → Prop} {b : Ba} {k : Tk} (hb : baC σ b) (hbo : baOK b) (hk : tkC σ k) (hko : tkOK k) (hy : clo b k → Q (some (aI 1)) σ) (hn : ¬ clo b k → Q (some (aI 0)) σ) : Cl lay1 (d + 1) M_Re_closes [aO 6 4] σ Q := by
  obtain ⟨-, -, -, -, fs⟩ := ckd_f hko
  have hl6 := hbo.2.2.1.1
  refine bk_Re_closes_0 ?_
  rw [hk.1, show (59 : Int32) = nI 59 from rfl, show (41 : Int32) = nI 41 from rfl, fs 59 (by omega), fs 41 (by omega), hb.2.2.1.1, show (0 : Int32) = nI 0 from rfl, nI_leI (by omega) (by omega)]
  unfold clo at hy hn
  refine ⟨fun c => ⟨fun c2 => ⟨b11, hy (Or.inr ⟨List.eq_nil_of_length_eq_zero (by omega), c2⟩)⟩, fun c2 => ⟨b01, hn ?_⟩⟩, fun c => ⟨fun c2 => ⟨b11, hy (Or.inl ⟨fun z => c (by rw [z]; exact Nat.le_refl _), c2⟩)⟩, fun c2 => ⟨b01, hn ?_⟩⟩⟩
  · rintro (⟨z1, z2⟩ | ⟨z1, z2⟩)
    · exact z1 (List.eq_nil_of_length_eq_zero (by omega))
    · exact c2 z2
  · rintro (⟨z1, z2⟩ | ⟨z1, z2⟩)
    · exact c2 z2
    · exact c (by rw [z1]; exact Nat.le_refl _)
theorem sp_takeOpen {σ : St} {Q : Option AV → St → Prop} {b : Ba} {k : Tk} {tm : Nat} {r : Nat ⊕ Ps} (hln : LN σ) (hb : baC σ b) (hbo : baOK b) (hk : tkC σ k) (hko : tkOK k) (h11 : gI σ 4 11 = nI tm) (hr : r = cite (isS k 40) (cite (6 ≤ b.2.2.1.length) (.inl 3) (.inr ((b.1, b.2.1, (b.2.1.1.length, tm) :: b.2.2.1, b.2.2.2), 2, 0, 0, 0, 0))) (.inl 2)) (h : stQ 2 4 σ Q r) : Cl lay1 (d + 1) M_Re_takeOpen [aO 6 4] σ Q := by
  obtain ⟨-, -, -, -, fs⟩ := ckd_f hko
  obtain ⟨hl, hw, ⟨ho1, ho2⟩, hnm⟩ := id hb
  have hl6 := hbo.2.2.1.1
  refine bk_Re_takeOpen_0 ?_
  have e0 : gI σ 5 2 = 40 ↔ isS k 40 := by rw [hk.1, show (40 : Int32) = nI 40 from rfl, fs 40 (by omega)]
  have e1 : gI σ 4 4 < 6 ↔ b.2.2.1.length < 6 := by rw [ho1, show (6 : Int32) = nI 6 from rfl, nI_ltI (by omega) (by omega)]
  rw [e0, e1]
  refine ⟨fun c => ⟨fun c2 => ?_, fun c2 => ?_⟩, fun c => ?_⟩
  · rw [cite_pos c, cite_neg (by omega)] at hr
    rw [ho1, hw.1, ix_nI (by omega)]
    have g1 : gI (pI σ 9 b.2.2.1.length (nI b.2.1.1.length)) 4 4 = nI b.2.2.1.length := by rw [gI_pI, if_neg (by omega)]; exact ho1
    have g2 : gI (pI σ 9 b.2.2.1.length (nI b.2.1.1.length)) 4 11 = nI tm := by rw [gI_pI, if_neg (by omega)]; exact h11
    rw [g1, g2, ix_nI (by omega)]
    have g3 : gI (pI (pI σ 9 b.2.2.1.length (nI b.2.1.1.length)) 10 b.2.2.1.length (nI tm)) 4 4 = nI b.2.2.1.length := by rw [gI_pI, if_neg (by omega)]; exact g1
    rw [g3, nI_1]
    refine ⟨by rw [hln.at 9 6 (by decide)]; exact inb_nI (by omega) (by omega), by show inb _ (gN σ 10); rw [hln.at 10 6 (by decide)]; exact inb_nI (by omega) (by omega), ?_⟩
    have a1 := (((rdT_9 (σ := σ) (j := 9) b.2.2.1.length (nI b.2.1.1.length) (by omega)).trans (rdT_9 (j := 10) b.2.2.1.length (nI tm) (by omega))).trans (rdT_4 (k := 4) (nI (b.2.2.1.length + 1)) (by omega))).trans (rdT_4 (k := 6) 2 (by omega))
    have e7 : ∀ i, gI (pI (pI (pI (pI σ 9 b.2.2.1.length (nI b.2.1.1.length)) 10 b.2.2.1.length (nI tm)) 4 4 (nI (b.2.2.1.length + 1))) 4 6 2) 7 i = gI σ 7 i := fun i => by rw [gI_pI, if_neg (by omega), gI_pI, if_neg (by omega), gI_pI, if_neg (by omega), gI_pI, if_neg (by omega)]
    have fin : baC (pI (pI (pI (pI σ 9 b.2.2.1.length (nI b.2.1.1.length)) 10 b.2.2.1.length (nI tm)) 4 4 (nI (b.2.2.1.length + 1))) 4 6 2) (b.1, b.2.1, (b.2.1.1.length, tm) :: b.2.2.1, b.2.2.2) → Q (some (aI 0)) (pI (pI (pI (pI σ 9 b.2.2.1.length (nI b.2.1.1.length)) 10 b.2.2.1.length (nI tm)) 4 4 (nI (b.2.2.1.length + 1))) 4 6 2) := fun hb' => (h _ a1 (by show sN σ ≤ _; omega) (by show sS σ ≤ _; omega)).2 _ hr (psC_b hb' (by rw [gI_pI, if_pos ⟨rfl, rfl⟩]; rfl) ⟨by decide, by decide⟩ _ _ _ _)
    refine fin ⟨a1.1.lines hl, ⟨(e7 1).trans hw.1, fun z => (e7 4).trans (hw.2.1 z), fun z => ?_, fun i x hx => a1.1.pt (hw.2.2.2 i x hx)⟩, ⟨?_, fun i x hx => ?_⟩, hnm⟩
    · rw [e7, e7, e7]; exact hw.2.2.1 z
    · rw [gI_pI, if_neg (by omega), gI_pI, if_pos ⟨rfl, rfl⟩]; rfl
    · have hx : (b.2.2.1.reverse ++ [(b.2.1.1.length, tm)])[i]? = some x := by rw [← List.reverse_cons]; exact hx
      have f9 : gI (pI (pI (pI (pI σ 9 b.2.2.1.length (nI b.2.1.1.length)) 10 b.2.2.1.length (nI tm)) 4 4 (nI (b.2.2.1.length + 1))) 4 6 2) 9 i = if i = b.2.2.1.length then nI b.2.1.1.length else gI σ 9 i := by
        rw [gI_pI, if_neg (by omega), gI_pI, if_neg (by omega), gI_pI, if_neg (by omega), gI_pI]
        by_cases z : i = b.2.2.1.length
        · rw [if_pos ⟨rfl, z⟩, if_pos z]
        · rw [if_neg (by omega), if_neg z]
      have f10 : gI (pI (pI (pI (pI σ 9 b.2.2.1.length (nI b.2.1.1.length)) 10 b.2.2.1.length (nI tm)) 4 4 (nI (b.2.2.1.length + 1))) 4 6 2) 10 i = if i = b.2.2.1.length then nI tm else gI σ 10 i := by
        rw [gI_pI, if_neg (by omega), gI_pI, if_neg (by omega), gI_pI]
        by_cases z : i = b.2.2.1.length
        · rw [if_pos ⟨rfl, z⟩, if_pos z]
        · rw [if_neg (by omega), if_neg z, gI_pI, if_neg (by omega)]
      rw [f9, f10]
      by_cases z : i < b.2.2.1.length
      · rw [if_neg (by omega), if_neg (by omega)]
        rw [List.getElem?_append_left (by rw [List.length_reverse]; exact z)] at hx
        exact ho2 i x hx
      · have hlen := (List.getElem?_eq_some_iff.mp hx).1
        rw [List.length_append, List.length_reverse] at hlen
        have hi : i = b.2.2.1.length := by
          have : [(b.2.1.1.length, tm)].length = 1 := rfl
          omega
        rw [if_pos hi, if_pos hi]
        rw [List.getElem?_append_right (by rw [List.length_reverse]; omega), List.length_reverse, hi, Nat.sub_self] at hx
        have hx : some (b.2.1.1.length, tm) = some x := hx
        cases hx
        exact ⟨rfl, rfl⟩
  · rw [cite_pos c, cite_pos (by omega)] at hr
    exact h.l hr
  · rw [cite_neg c] at hr
    exact h.l hr
end CCLOSE
