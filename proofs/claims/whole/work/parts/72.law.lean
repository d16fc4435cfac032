/-! ===== LAYER 3, H: the law's loop ===== -/
section STEPS
variable {L : Nat} {σ : St} {c : Nat} {s : Sa}
theorem cg_step (h : Iv L σ c s) {τ : St} {G' : Gd} (a : cg σ τ) (hg : gDC τ G') : cfr σ τ ∧ CIn τ (s.1, s.2.1, s.2.2.1, s.2.2.2.1, G', s.2.2.2.2.2) ∧ sN τ = sN σ ∧ sS τ = sS σ := by
  obtain ⟨h1, h2, h3, h4, h5, h6, -, -⟩ := h
  have eI := a.2.2.2.2.2
  have eL : ∀ j k, gL τ j k = gL σ j k := fun j k => by rw [a.2.2.2.2.1]
  obtain ⟨q1, q2, q3, q4, q5, q6, q7, q8, q9, q10⟩ := id h4
  exact ⟨⟨h1.of a.2.2.1, fun j x1 x2 => ⟨fun k => eI j k (by omega) (by omega) (by omega), fun k => eL j k⟩, by rw [a.2.2.1], fun k => eI 1 k (by omega) (by omega) (by omega)⟩, CIn.of h3 h4 a.2.2.1 a.2.2.2.1 a.1 (fun j k _ _ _ _ x => eI j k (by omega) (by omega) (by omega)) (fun j k q => eL j k) ⟨(eI 5 1 (by omega) (by omega) (by omega)).trans q3.1, fun i hi => (eI 6 i (by omega) (by omega) (by omega)).trans (q3.2 i hi)⟩ (fun k hk => ⟨(eL _ 0).trans (q7 k hk).1, (eL _ 1).trans (q7 k hk).2⟩) ⟨(eI 29 13 (by omega) (by omega) (by omega)).trans q8.1, fun k f hk => ⟨(eL _ 0).trans (q8.2 k f hk).1, (eL _ 1).trans (q8.2 k f hk).2⟩⟩ hg, a.1, a.2.1⟩
theorem rg_step (h : RIn σ s) {τ : St} {G' : Gd} (a : rg σ τ) (hg : gDR τ G') : RIn τ (s.1, s.2.1, s.2.2.1, s.2.2.2.1, G', s.2.2.2.2.2) ∧ oC σ τ := by
  have eI := a.2.2.2.2.2
  have eL : ∀ j k, gL τ j k = gL σ j k := fun j k => by rw [a.2.2.2.2.1]
  obtain ⟨q1, q2, q3, q4, q5, q6, q7, q8⟩ := id h
  exact ⟨RIn.of h (fun j k x1 x2 x3 => eI j k (by omega) (by omega) (by omega)) (fun j k x1 x2 => eL j k) ⟨(eI 71 1 (by omega) (by omega) (by omega)).trans q1.1, fun i hi => (eI 72 i (by omega) (by omega) (by omega)).trans (q1.2 i hi)⟩ (fun k hk => ⟨(eL 88 k).trans (q5 k hk).1, (eL 89 k).trans (q5 k hk).2⟩) ⟨(eI 71 42 (by omega) (by omega) (by omega)).trans q6.1, fun k f hk => ⟨(eL 92 _).trans (q6.2 k f hk).1, (eL 92 _).trans (q6.2 k f hk).2⟩⟩ hg, ⟨a.1, a.2.1, a.2.2.1, a.2.2.2.1, fun j k q => eI j k (by omega) (by omega) (by omega), fun j k q => eL j k⟩⟩
theorem fd_step (h : Iv L σ c s) {τ : St} {t' : Tx} (a : fdC σ τ) (ht : txC τ t') : cfr σ τ ∧ CIn τ (t', s.2.1, s.2.2.1, s.2.2.2.1, s.2.2.2.2.1, s.2.2.2.2.2) ∧ sN τ = sN σ ∧ sS τ = sS σ := by
  obtain ⟨h1, h2, h3, h4, h5, h6, -, -⟩ := h
  have eI := a.2.2.2.2.2
  have eL : ∀ j k, gL τ j k = gL σ j k := fun j k => by rw [a.2.2.2.2.1]
  obtain ⟨q1, q2, q3, q4, q5, q6, q7, q8, q9, q10⟩ := id h4
  exact ⟨⟨h1.of a.2.2.1, fun j x1 x2 => ⟨fun k => eI j k (by omega) (by omega), fun k => eL j k⟩, by rw [a.2.2.1], fun k => eI 1 k (by omega) (by omega)⟩, CIn.of h3 h4 a.2.2.1 a.2.2.2.1 a.1 (fun j k x1 x2 _ _ x => eI j k (by omega) (by omega)) (fun j k q => eL j k) ht (fun k hk => ⟨(eL _ 0).trans (q7 k hk).1, (eL _ 1).trans (q7 k hk).2⟩) ⟨(eI 29 13 (by omega) (by omega)).trans q8.1, fun k f hk => ⟨(eL _ 0).trans (q8.2 k f hk).1, (eL _ 1).trans (q8.2 k f hk).2⟩⟩ (q9.of (fun j _ => eI 68 j (by omega) (by omega))), a.1, a.2.1⟩
theorem rd_step (h : RIn σ s) {τ : St} {t' : Tx} (a : fdR σ τ) (ht : txR τ t') : RIn τ (t', s.2.1, s.2.2.1, s.2.2.2.1, s.2.2.2.2.1, s.2.2.2.2.2) ∧ oC σ τ := by
  have eI := a.2.2.2.2.2
  have eL : ∀ j k, gL τ j k = gL σ j k := fun j k => by rw [a.2.2.2.2.1]
  obtain ⟨q1, q2, q3, q4, q5, q6, q7, q8⟩ := id h
  exact ⟨RIn.of h (fun j k x1 x2 x3 => eI j k (by omega) (by omega)) (fun j k x1 x2 => eL j k) ht (fun k hk => ⟨(eL 88 k).trans (q5 k hk).1, (eL 89 k).trans (q5 k hk).2⟩) ⟨(eI 71 42 (by omega) (by omega)).trans q6.1, fun k f hk => ⟨(eL 92 _).trans (q6.2 k f hk).1, (eL 92 _).trans (q6.2 k f hk).2⟩⟩ (q7.of (fun j hj => eI 71 j (by omega) (by omega))), ⟨a.1, a.2.1, a.2.2.1, a.2.2.2.1, fun j k q => eI j k (by omega) (by omega), fun j k q => eL j k⟩⟩
theorem kick_step (h : Iv L σ c s) {τ : St} {S : List Nat} {K' : Kk} (a : ar S σ τ) (hS : ∀ j ∈ S, 14 ≤ j ∧ j < 26) (eG : gI τ = gI σ) (hk : kF τ 14 s.2.1 K') : cfr σ τ ∧ CIn τ (s.1, s.2.1, K', s.2.2.2.1, s.2.2.2.2.1, s.2.2.2.2.2) ∧ sN τ = sN σ ∧ sS τ = sS σ := by
  obtain ⟨h1, h2, h3, h4, h5, h6, -, -⟩ := h
  have eL : ∀ j k, (j < 14 ∨ 26 ≤ j) → gL τ j k = gL σ j k := fun j k q => a.2.2.2.2.2 j (fun z => by have := hS j z; omega) k
  obtain ⟨q1, q2, q3, q4, q5, q6, q7, q8, q9, q10⟩ := id h4
  refine ⟨⟨h1.of a.2.2.1, fun j x1 x2 => ⟨fun k => by rw [eG], fun k => eL j k (by omega)⟩, by rw [a.2.2.1], fun k => by rw [eG]⟩, CIn.of h3 h4 a.2.2.1 a.2.2.2.1 a.1 (fun j k _ _ _ _ _ => by rw [eG]) (fun j k q => eL j k (by omega)) ⟨by rw [eG]; exact q3.1, fun i hi => by rw [eG]; exact q3.2 i hi⟩ hk ⟨by rw [eG]; exact q8.1, fun k f hk => ⟨(eL (64 + k) 0 (by omega)).trans (q8.2 k f hk).1, (eL (64 + k) 1 (by omega)).trans (q8.2 k f hk).2⟩⟩ (q9.of (fun j _ => by rw [eG])), a.1, a.2.1⟩
theorem rk_step (h : RIn σ s) {τ : St} {K' : Kk} (a : rk σ τ) (hk : rkF τ s.2.1 K') : RIn τ (s.1, s.2.1, K', s.2.2.2.1, s.2.2.2.2.1, s.2.2.2.2.2) ∧ oC σ τ := by
  have eI : ∀ j k, gI τ j k = gI σ j k := fun j k => by rw [a.2.2.2.2.1]
  have eL := a.2.2.2.2.2
  obtain ⟨q1, q2, q3, q4, q5, q6, q7, q8⟩ := id h
  exact ⟨RIn.of h (fun j k _ _ _ => eI j k) (fun j k x1 x2 => eL j k (by omega) (by omega)) ⟨(eI 71 1).trans q1.1, fun i hi => (eI 72 i).trans (q1.2 i hi)⟩ hk ⟨(eI 71 42).trans q6.1, fun k f hk => ⟨(eL 92 _ (by omega) (by omega)).trans (q6.2 k f hk).1, (eL 92 _ (by omega) (by omega)).trans (q6.2 k f hk).2⟩⟩ (q7.of (fun j _ => eI 71 j)), ⟨a.1, a.2.1, a.2.2.1, a.2.2.2.1, fun j k q => eI j k, fun j k q => eL j k (by omega) (by omega)⟩⟩
end STEPS
theorem spRead_len {s : Sa} (h : SOK s) : (spRead s).2.1.1 = 0 := by
  cases e : prP s.1 0 p0 with
  | inl q => rw [spRead_l (c := q.1) (pl := q.2) e]
  | inr p =>
    obtain ⟨q1, q2⟩ := prP_end h.1 _ 0 p0 p rfl (Nat.zero_le _) p0_ok e
    cases el : p.1.1 with
    | nil => exact absurd el q1
    | cons l r => rw [spRead_r e el]
theorem law_loop {L : Nat} (hL : L ≤ 2560) : ∀ (m c : Nat) (σ : St) (s : Sa), c + m = 600 → Iv L σ c s → Wp lay1 rtOf (Cl lay1 9) k_Law_law 2 QL (18, [aO 22 1, aO 11 3, aO 12 71, aI (nI (5 * c))], [], σ) := by
  intro m
  induction m with
  | zero =>
    intro c σ s hc hI
    refine bk_Law_law_18 _ ⟨fun _ => ⟨b11, rfl, by have := hI.2.2.2.2.2.2.1; omega, by have := hI.2.2.2.2.2.2.2; omega⟩, fun z => absurd ?_ z⟩
    rw [hI.2.2.2.2.2.1, Int32.lt_iff_toInt_lt, nI_toInt (by omega)]
    show (nI L - nI 5).toInt < _
    rw [pk_sub_toInt (by omega) (by omega)]
    omega
  | succ m ih =>
    intro c σ s hc hI
    obtain ⟨hln, h95, ho, hC, hR, hg1, hsN, hsS⟩ := id hI
    obtain ⟨o1, o2, o3, o4, o5⟩ := id ho
    obtain ⟨c1, c2, c3, c4, c5, c6, c7, c8, c9, c10⟩ := id hC
    obtain ⟨r1, r2, r3, r4, r5, r6, r7, r8⟩ := id hR
    have K : ∀ υ s', Iv L υ (c + 1) s' → Wp lay1 rtOf (Cl lay1 9) k_Law_law 2 QL (627, [aO 22 1, aO 11 3, aO 12 71, aI (nI (5 * c))], [], υ) := by
      intro υ s' h
      refine bk_Law_law_627 _ ?_
      rw [show nI (5 * c) + (5 : Int32) = nI (5 * (c + 1)) by rw [show (5 : Int32) = nI 5 from rfl, nI_add, Nat.mul_add]]
      exact ih (c + 1) υ s' (by omega) h
    have fin : ∀ (v : Int32) υ s', Iv L υ (c + 1) s' → (v = v → Wp lay1 rtOf (Cl lay1 9) k_Law_law 2 QL (627, [aO 22 1, aO 11 3, aO 12 71, aI (nI (5 * c))], [], υ)) ∧ (¬ v = v → ((0 : Int32) = 0 ∨ (0 : Int32) = 1) ∧ QL (some (aI (0 : Int32))) υ) := fun v υ s' h => ⟨fun _ => K υ s' h, fun z => absurd rfl z⟩
    have same : ∀ υ, υ = σ → Iv L υ (c + 1) s := fun υ e => by
      rw [e]
      exact ⟨hln, h95, ho, hC, hR, hg1, by omega, by omega⟩
    refine bk_Law_law_18 _ ⟨fun _ => ⟨b11, rfl, by omega, by omega⟩, fun z => ?_⟩
    have hlen : 5 * c + 5 ≤ L := by
      rw [hg1, Int32.lt_iff_toInt_lt, nI_toInt (by omega)] at z
      have z : ¬ (nI L - nI 5).toInt < _ := z
      rw [pk_sub_toInt (by omega) (by omega)] at z
      omega
    have bI : ∀ (j : Nat) (τ : St), j ≤ 4 → gN τ 1 = L → inb (nI (5 * c) + nI j) (gN τ 1) := fun j τ hj e => by
      rw [e, nI_add]
      exact inb_nI (by omega) (by omega)
    have b1 := bI 1 σ (by omega) hg1
    have b2 := bI 2 σ (by omega) hg1
    have b3 := bI 3 σ (by omega) hg1
    have b4 := bI 4 σ (by omega) hg1
    refine ⟨by rw [hg1]; exact inb_nI (by omega) (by omega), fun _ => ⟨b1, b2, b3, ?_⟩, fun _ => ⟨fun _ => ?_, fun _ => ⟨fun _ => ?_, fun _ => ⟨fun _ => ⟨b1, b2, ?_⟩, fun _ => ⟨fun _ => ⟨b1, b2, b3, ?_⟩, fun _ => ⟨fun _ => ⟨b1, b2, ?_⟩, fun _ => ⟨fun _ => ⟨b1, ?_⟩, fun _ => ⟨fun _ => ⟨b1, ?_⟩, fun _ => ⟨fun _ => ?_, fun _ => ⟨fun _ => ⟨b1, ?_⟩, fun _ => ⟨fun _ => ⟨b1, b2, ?_⟩, fun _ => ⟨fun _ => ⟨b1, b2, b3, ?_⟩, fun _ => ⟨fun _ => ⟨b1, b2, ?_⟩, fun _ => ⟨fun _ => ⟨b1, ?_⟩, fun _ => ⟨fun _ => ⟨b1, ?_⟩, fun _ => ⟨fun _ => ⟨b1, b2, b3, b4, ?_⟩, fun _ => ⟨fun _ => ⟨b1, ?_⟩, fun _ => K σ s (same σ rfl)⟩⟩⟩⟩⟩⟩⟩⟩⟩⟩⟩⟩⟩⟩⟩⟩⟩
    -- 0 feed
    · refine sp_C_feed (d := 7) hln c3 o1 (fun τ a ht => ?_)
      obtain ⟨f, ci, e1, e2⟩ := fd_step hI a ht
      have ri := f.2.1.R hR
      have hg := f.2.2.1.trans hg1
      refine ⟨bI 1 τ (by omega) hg, bI 2 τ (by omega) hg, bI 3 τ (by omega) hg, ?_⟩
      simp only [f.2.2.2]
      refine sp_R_feed (d := 7) f.1 ri.1 o1 (fun υ a2 ht2 => ?_)
      obtain ⟨ri2, oc⟩ := rd_step ri a2 ht2
      have hl8 := spFeed_len (t := s.1) (n := gI σ 1 (ix (nI (5 * c) + 1))) (v := (gI σ 1 (ix (nI (5 * c) + 2))).toInt64 <<< ((32 : Int32).toInt64 &&& 63) ||| (gI σ 1 (ix (nI (5 * c) + 3))).toInt64 &&& 4294967295)
      have ok : SOK ((spFeed s.1 (gI σ 1 (ix (nI (5 * c) + 1))) ((gI σ 1 (ix (nI (5 * c) + 2))).toInt64 <<< ((32 : Int32).toInt64 &&& 63) ||| (gI σ 1 (ix (nI (5 * c) + 3))).toInt64 &&& 4294967295)).2, s.2.1, s.2.2.1, s.2.2.2.1, s.2.2.2.2.1, s.2.2.2.2.2) := ⟨spFeed_ok o1, o2, o3, o4, o5⟩
      have iv := hI.next ok ci f.1 f.2.2.1 (by omega) (by show sN τ + 4 * (spFeed s.1 (gI σ 1 (ix (nI (5 * c) + 1))) ((gI σ 1 (ix (nI (5 * c) + 2))).toInt64 <<< ((32 : Int32).toInt64 &&& 63) ||| (gI σ 1 (ix (nI (5 * c) + 3))).toInt64 &&& 4294967295)).2.1 ≤ _; omega) (by show sS τ + 87 * (spFeed s.1 (gI σ 1 (ix (nI (5 * c) + 1))) ((gI σ 1 (ix (nI (5 * c) + 2))).toInt64 <<< ((32 : Int32).toInt64 &&& 63) ||| (gI σ 1 (ix (nI (5 * c) + 3))).toInt64 &&& 4294967295)).2.1 ≤ _; omega) ri2 oc
      exact ⟨fun _ => K υ _ iv, fun z => absurd rfl z⟩
    -- 1 read
    · refine sp_C_read (d := 1) hln h95 ho hC (fun τ a1 a1' a2 a3 a4 a5 a6 => ?_)
      have ri := a2.R hR
      refine sp_R_read (d := 3) a1 ho ri (fun υ e1 e2 e3 e4 e5 e6 e7 => ?_)
      have el := spRead_len ho
      exact ⟨fun _ => K υ _ (hI.next (spRead_ok ho) a6 a1 a1' (by omega) (by omega) (by omega) e7 ⟨e1, e2, e3, e4, e5, e6⟩), fun z => absurd rfl z⟩
    -- 2 place
    · refine bk_C_place_0 ?_
      refine bk_R_place_0 ?_
      rw [c10, r8]
      exact fin _ σ s (same σ rfl)
    -- 3 part
    · refine sp_C_part (d := 7) hln c1 c4 o2 c6 o3 c7 ?_
      refine ⟨b1, b2, ?_⟩
      refine sp_R_part (d := 6) hln r2 o2 o3 r5 ?_
      exact fin _ σ s (same σ rfl)
    -- 4 kick
    · refine sp_C_kick (d := 6) hln c1 c6 o3 c7 (fun τ S a aS eG hk => ?_)
      obtain ⟨f, ci, e1, e2⟩ := kick_step hI a aS eG hk
      have ri := f.2.1.R hR
      have hg := f.2.2.1.trans hg1
      refine ⟨bI 1 τ (by omega) hg, bI 2 τ (by omega) hg, bI 3 τ (by omega) hg, ?_⟩
      simp only [f.2.2.2]
      refine sp_R_kick (d := 6) f.1 o3 ri.2.2.1 ri.2.2.2.2.1 (fun υ a2 hk2 => ?_)
      obtain ⟨ri2, oc⟩ := rk_step ri a2 hk2
      exact ⟨fun _ => K υ _ (hI.next (by exact ⟨o1, o2, o3, spKick_ok o4, o5⟩) ci f.1 f.2.2.1 (by omega) (by show sN τ + 4 * s.1.1 ≤ _; omega) (by show sS τ + 87 * s.1.1 ≤ _; omega) ri2 oc), fun z => absurd rfl z⟩
    -- 5 table
    · refine sp_C_table (d := 2) hln c1 c4 o2 c8 (fun τ a hl => ?_)
      obtain ⟨f, ci, e1, e2⟩ := cn_step hI a hl
      have ri := f.2.1.R hR
      have hg := f.2.2.1.trans hg1
      refine ⟨bI 1 τ (by omega) hg, bI 2 τ (by omega) hg, ?_⟩
      simp only [f.2.2.2]
      refine sp_R_table (d := 2) f.1 ri.2.1 o2 ri.2.2.2.2.2.1 (fun υ a2 hl2 => ?_)
      obtain ⟨ri2, oc⟩ := rn_step ri a2 hl2
      exact ⟨fun _ => K υ _ (hI.next (by exact ⟨o1, o2, o3, o4, l4_table o5⟩) ci f.1 f.2.2.1 (by omega) (by show sN τ + 4 * s.1.1 ≤ _; omega) (by show sS τ + 87 * s.1.1 ≤ _; omega) ri2 oc), fun z => absurd rfl z⟩
    -- 6 round
    · refine sp_C_round (d := 2) hln c1 c4 o2 c8 (fun τ a hl => ?_)
      obtain ⟨f, ci, e1, e2⟩ := cn_step hI a hl
      have ri := f.2.1.R hR
      have hg := f.2.2.1.trans hg1
      refine ⟨bI 1 τ (by omega) hg, ?_⟩
      simp only [f.2.2.2]
      refine sp_R_round (d := 2) f.1 ri.2.1 o2 ri.2.2.2.2.2.1 (fun υ a2 hl2 => ?_)
      obtain ⟨ri2, oc⟩ := rn_step ri a2 hl2
      exact ⟨fun _ => K υ _ (hI.next (by exact ⟨o1, o2, o3, o4, l4_round o5⟩) ci f.1 f.2.2.1 (by omega) (by show sN τ + 4 * s.1.1 ≤ _; omega) (by show sS τ + 87 * s.1.1 ≤ _; omega) ri2 oc), fun z => absurd rfl z⟩
    -- 7 widths
    · refine sp_C_widths (d := 2) hln c1 c4 o2 c8 (fun τ a hl => ?_)
      obtain ⟨f, ci, e1, e2⟩ := cn_step hI a hl
      have ri := f.2.1.R hR
      have hg := f.2.2.1.trans hg1
      refine ⟨bI 1 τ (by omega) hg, ?_⟩
      simp only [f.2.2.2]
      refine sp_R_widths (d := 2) f.1 ri.2.1 o2 ri.2.2.2.2.2.1 (fun υ a2 hl2 => ?_)
      obtain ⟨ri2, oc⟩ := rn_step ri a2 hl2
      exact ⟨fun _ => K υ _ (hI.next (by exact ⟨o1, o2, o3, o4, l4_widths o5⟩) ci f.1 f.2.2.1 (by omega) (by show sN τ + 4 * s.1.1 ≤ _; omega) (by show sS τ + 87 * s.1.1 ≤ _; omega) ri2 oc), fun z => absurd rfl z⟩
    -- 8 turns
    · refine sp_C_turns (d := 2) c4 o2 (fun τ a hl => ?_)
      obtain ⟨f, ci, e1, e2⟩ := cn_step hI a (hl _ c8)
      have ri := f.2.1.R hR
      refine sp_R_turns (d := 2) f.1 ri.2.1 o2 (fun υ a2 hl2 => ?_)
      obtain ⟨ri2, oc⟩ := rn_step ri a2 (hl2 _ ri.2.2.2.2.2.1)
      exact ⟨fun _ => K υ _ (hI.next (by exact ⟨o1, o2, o3, o4, o5⟩) ci f.1 f.2.2.1 (by omega) (by show sN τ + 4 * s.1.1 ≤ _; omega) (by show sS τ + 87 * s.1.1 ≤ _; omega) ri2 oc), fun z => absurd rfl z⟩
    -- 9 way
    · refine sp_C_way (d := 2) hln c1 c4 o2 c6 o3 c7 o4 c8 (fun τ a hl => ?_)
      obtain ⟨f, ci, e1, e2⟩ := cn_step hI a hl
      have ri := f.2.1.R hR
      have hg := f.2.2.1.trans hg1
      refine ⟨bI 1 τ (by omega) hg, ?_⟩
      simp only [f.2.2.2]
      refine sp_R_way (d := 2) f.1 ri.2.1 o2 o3 ri.2.2.2.2.1 o4 ri.2.2.2.2.2.1 (fun υ a2 hl2 => ?_)
      obtain ⟨ri2, oc⟩ := rn_step ri a2 hl2
      exact ⟨fun _ => K υ _ (hI.next (by exact ⟨o1, o2, o3, o4, l4_way o5⟩) ci f.1 f.2.2.1 (by omega) (by show sN τ + 4 * s.1.1 ≤ _; omega) (by show sS τ + 87 * s.1.1 ≤ _; omega) ri2 oc), fun z => absurd rfl z⟩
    -- 10 answer
    · refine sp_C_answer (d := 2) hln c1 c4 o2 c6 o3 c8 (fun τ a hl => ?_)
      obtain ⟨f, ci, e1, e2⟩ := cn_step hI a hl
      have ri := f.2.1.R hR
      have hg := f.2.2.1.trans hg1
      refine ⟨bI 1 τ (by omega) hg, bI 2 τ (by omega) hg, ?_⟩
      simp only [f.2.2.2]
      refine sp_R_answer (d := 2) f.1 ri.2.1 o2 o3 ri.2.2.1 ri.2.2.2.1 ri.2.2.2.2.2.1 (fun υ a2 hl2 => ?_)
      obtain ⟨ri2, oc⟩ := rn_step ri a2 hl2
      exact ⟨fun _ => K υ _ (hI.next (by exact ⟨o1, o2, o3, o4, l4_answer o5⟩) ci f.1 f.2.2.1 (by omega) (by show sN τ + 4 * s.1.1 ≤ _; omega) (by show sS τ + 87 * s.1.1 ≤ _; omega) ri2 oc), fun z => absurd rfl z⟩
    -- 11 bump
    · refine sp_C_bump (d := 1) hln c1 c4 o2 c6 o3 c8 (fun τ a hl => ?_)
      obtain ⟨f, ci, e1, e2⟩ := cn_step hI a hl
      have ri := f.2.1.R hR
      have hg := f.2.2.1.trans hg1
      refine ⟨bI 1 τ (by omega) hg, bI 2 τ (by omega) hg, bI 3 τ (by omega) hg, ?_⟩
      simp only [f.2.2.2]
      refine sp_R_bump (d := 2) f.1 ri.2.1 o2 o3 ri.2.2.1 ri.2.2.2.2.2.1 (fun υ a2 hl2 => ?_)
      obtain ⟨ri2, oc⟩ := rn_step ri a2 hl2
      exact ⟨fun _ => K υ _ (hI.next (by exact ⟨o1, o2, o3, o4, l4_bump o5⟩) ci f.1 f.2.2.1 (by omega) (by show sN τ + 4 * s.1.1 ≤ _; omega) (by show sS τ + 87 * s.1.1 ≤ _; omega) ri2 oc), fun z => absurd rfl z⟩
    -- 12 number
    · refine sp_C_number (d := 7) hln c1 c8 o5 ?_
      refine ⟨b1, b2, ?_⟩
      refine sp_R_number (d := 7) hln r6 o5 ?_
      exact fin _ σ s (same σ rfl)
    -- 13 grid
    · refine sp_C_grid (d := 2) hln c2 c4 o2 c9 (fun τ a hg' => ?_)
      obtain ⟨f, ci, e1, e2⟩ := cg_step hI a hg'
      have ri := f.2.1.R hR
      have hg := f.2.2.1.trans hg1
      refine ⟨bI 1 τ (by omega) hg, ?_⟩
      simp only [f.2.2.2]
      refine sp_R_grid (d := 2) f.1 ri.2.1 o2 ri.2.2.2.2.2.2.1 (fun υ a2 hg2 => ?_)
      obtain ⟨ri2, oc⟩ := rg_step ri a2 hg2
      exact ⟨fun _ => K υ _ (hI.next (by exact ⟨o1, o2, o3, o4, o5⟩) ci f.1 f.2.2.1 (by omega) (by show sN τ + 4 * s.1.1 ≤ _; omega) (by show sS τ + 87 * s.1.1 ≤ _; omega) ri2 oc), fun z => absurd rfl z⟩
    -- 14 rows
    · refine sp_C_rows (d := 7) c9 ?_
      refine ⟨b1, ?_⟩
      refine sp_R_rows (d := 7) r7 ?_
      exact fin _ σ s (same σ rfl)
    -- 15 after
    · refine sp_C_after (d := 2) hln c2 c4 o2 (fun τ a ha => ?_)
      obtain ⟨f, ci, e1, e2⟩ := cg_step hI a (c9.of ha)
      have ri := f.2.1.R hR
      have hg := f.2.2.1.trans hg1
      refine ⟨bI 1 τ (by omega) hg, bI 2 τ (by omega) hg, bI 3 τ (by omega) hg, bI 4 τ (by omega) hg, ?_⟩
      simp only [f.2.2.2]
      refine sp_R_after (d := 2) f.1 ri.2.1 o2 (fun υ a2 ha2 => ?_)
      obtain ⟨ri2, oc⟩ := rg_step ri a2 (ri.2.2.2.2.2.2.1.of (fun j _ => ha2 j))
      exact ⟨fun _ => K υ _ (hI.next (by exact ⟨o1, o2, o3, o4, o5⟩) ci f.1 f.2.2.1 (by omega) (by show sN τ + 4 * s.1.1 ≤ _; omega) (by show sS τ + 87 * s.1.1 ≤ _; omega) ri2 oc), fun z => absurd rfl z⟩
    -- 16 count
    · refine sp_C_count (d := 8) c3 c4 c6 c8 ?_
      refine ⟨b1, ?_⟩
      refine sp_R_count (d := 8) r1 r2 r3 r4 r6 ?_
      exact fin _ σ s (same σ rfl)
