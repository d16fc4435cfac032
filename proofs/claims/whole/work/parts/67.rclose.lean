/-! ===== LAYER 3, F: the reference's reading: brackets close, lines end ===== -/
section RCLOSE
variable {d : Nat}
theorem sp_rr_inner {x1 x3 : Int32} {u : Nat} {base : List Pt} (hu : u = base.length) (h80 : u ≤ 80) : ∀ (l : List Pt) (i : Nat) (w : Rw) (σ : St) (Q : Option AV → St → Prop), base.drop i = l → i ≤ u → LN σ → rowR σ w → rwOK w → (∃ e, w.1 = base ++ e) → (∀ τ u4, fB σ τ → rowR τ (rfold w l) → (∃ e, (rfold w l).1 = base ++ e) → Wp lay1 rtOf (Cl lay1 (d + 2)) k_R_closes 2 Q (42, [aO 12 71, aI x1, aI (nI u), aI (x3 + 1), u4], [], τ)) → Wp lay1 rtOf (Cl lay1 (d + 2)) k_R_closes 2 Q (58, [aO 12 71, aI x1, aI (nI u), aI x3, aI (nI i)], [], σ) := by
  intro l
  induction l with
  | nil =>
    intro i w σ Q hd hi hln hw hwo he h
    have : base.length ≤ i := List.drop_eq_nil_iff.mp hd
    refine bk_R_closes_58 _ _ _ _ ⟨fun _ => h σ _ (fB.rf _) hw he, fun c => absurd ?_ c⟩
    exact (nI_leI (by omega) (by omega)).mpr (by omega)
  | cons q l ih =>
    intro i w σ Q hd hi hln hw hwo he h
    have hlt : i < base.length := by
      by_cases z : i < base.length
      · exact z
      · rw [List.drop_eq_nil_iff.mpr (by omega)] at hd
        cases hd
    have hbq : base[i]? = some q := by
      have : (base.drop i)[0]? = some q := by rw [hd]; rfl
      rw [List.getElem?_drop] at this
      exact this
    have hd' : base.drop (i + 1) = l := by
      have : (base.drop i).drop 1 = l := by rw [hd]; rfl
      rw [List.drop_drop] at this
      exact this
    have he' := he
    obtain ⟨e, hwe⟩ := he
    have hwq : w.1[i]? = some q := by rw [hwe, List.getElem?_append_left hlt]; exact hbq
    have hqk := hwo.2.2.2 q (List.mem_of_getElem? hwq)
    obtain ⟨p1, p2, p3⟩ := hw.2.2.2.2 i q hwq
    refine bk_R_closes_58 _ _ _ _ ⟨fun c => absurd ((nI_leI (by omega) (by omega)).mp c) (by omega), fun _ => ⟨fun c => ?_, fun c => ?_⟩⟩
    · have bb : ∀ j, (j, 82) ∈ lnL → inb (nI i) (gN σ j) := fun j hj => by rw [hln.at j 82 hj]; exact inb_nI (by omega) (by omega)
      refine ⟨bb 79 (by decide), bb 80 (by decide), bb 81 (by decide), ?_⟩
      rw [ix_nI (by omega), p1, p2, p3]
      refine sp_adds (d := d) hln hw hwo hqk.1 hqk.2.1.1 ⟨hqk.2.1.2.1, hqk.2.1.2.2⟩ (fun τ a hw' => ?_)
      rw [lowF_id hqk.2.2] at hw'
      show Wp lay1 rtOf (Cl lay1 (d + 2)) k_R_closes 2 Q (58, [aO 12 71, aI x1, aI (nI u), aI x3, aI (nI i + 1)], [], τ)
      rw [nI_1]
      obtain ⟨e', hx⟩ := radd_ext w q
      exact ih (i + 1) (radd w q) τ Q hd' (by omega) (hln.of a.2.2.1) hw' (radd_ok hwo hqk) ⟨e ++ e', by rw [hx, hwe, List.append_assoc]⟩ (fun υ u4 b1 b2 b3 => h υ u4 (a.trans b1) b2 b3)
    · have hm : w.2 = true := by
        cases z : w.2 with
        | true => rfl
        | false => rw [hw.2.1, z] at c; exact absurd rfl c
      have er : rfold w (q :: l) = w := rfold_m hm _
      refine h σ _ (fB.rf _) (by rw [er]; exact hw) (by rw [er]; exact he')
theorem sp_rr_outer {f n u o : Nat} {base : List Pt} (hu : u = base.length) (h80 : u ≤ 80) (hn : n ≤ 40) (hf : f ≤ u) (ho : o < 8) : ∀ (m k : Nat) (w : Rw) (u4 : AV) (σ : St) (Q : Option AV → St → Prop), k + m = n → LN σ → rowR σ w → rwOK w → (∃ e, w.1 = base ++ e) → gI σ 71 23 = nI o → gI σ 82 o = nI n → (∀ τ x4, fB σ τ → rowR τ (rrepN (base.drop f) m w) → Wp lay1 rtOf (Cl lay1 (d + 2)) k_R_closes 2 Q (42, [aO 12 71, aI (nI f), aI (nI u), aI (nI n), x4], [], τ)) → Wp lay1 rtOf (Cl lay1 (d + 2)) k_R_closes 2 Q (42, [aO 12 71, aI (nI f), aI (nI u), aI (nI k), u4], [], σ) := by
  intro m
  induction m with
  | zero =>
    intro k w u4 σ Q hk hln hw hwo he h23 h82 h
    have e : k = n := by omega
    subst e
    exact h σ u4 (fB.rf _) hw
  | succ m ih =>
    intro k w u4 σ Q hk hln hw hwo he h23 h82 h
    refine bk_R_closes_42 _ _ _ _ ⟨by rw [h23, hln.at 82 8 (by decide)]; exact inb_nI ho (by omega), fun c => absurd c ?_, fun _ => ?_⟩
    · rw [h23, ix_nI (by omega), h82, nI_leI (by omega) (by omega)]; omega
    refine sp_rr_inner hu h80 (base.drop f) f w σ Q rfl hf hln hw hwo he (fun τ u5 a hw' he' => ?_)
    rw [nI_1]
    have hwo' : rwOK (rfold w (base.drop f)) := by
      obtain ⟨e, hwe⟩ := he
      refine rfold_ok hwo (fun q hq => hwo.2.2.2 q ?_)
      rw [hwe]
      exact List.mem_append_left _ (List.mem_of_mem_drop hq)
    exact ih (k + 1) _ u5 τ Q (by omega) (hln.of a.2.2.1) hw' hwo' he' ((a.2.2.2.2.1 71 23 (by omega) (by omega)).trans h23) ((a.2.2.2.2.1 82 o (by omega) (by omega)).trans h82) (fun υ x4 b1 b2 => h υ x4 (a.trans b1) b2)
theorem sp_rcloses {σ : St} {Q : Option AV → St → Prop} {t : Tx} {b : Ba} {a m : Nat} (hto : txOK t) (hr : RI σ t a b m) (hbo : baOK b) (hm : m = 2 ∨ m = 3) (h41 : isS (tok t a) 41) (hs : ∀ τ a' b' m', fR σ τ → RI τ t a' b' m' → baOK b' → b'.1 = b.1 → b'.2.2.2 = b.2.2.2 → a < a' → (m' = 2 ∨ m' = 3) → prP t a (b, m, 0, 0, 0, 0) = prP t a' (b', m', 0, 0, 0, 0) → Q (some (aI 1)) τ) (hf : ∀ τ c pl, flP σ c pl τ → 1 ≤ c ∧ c ≤ 4 → prP t a (b, m, 0, 0, 0, 0) = .inl (c, pl) → Q (some (aI 0)) τ) : Cl lay1 (d + 3) M_R_closes [aO 12 71] σ Q := by
  obtain ⟨hB, hk, ha, h84⟩ := hr
  have hko := tok_ok hto ha
  have hpos := tok_pos ha
  have hl6 := hbo.2.2.1.1
  have h80 := hbo.2.1.1
  have c3 := h41.1
  have hlt := hpos.2.2.2.1 (by omega)
  have e23 : gI σ 71 23 = nI b.2.2.1.length := hB.2.2.2.2.2.1
  have item2 : stItem b (tok t a) = .inl 2 := by
    unfold stItem
    rw [cite_neg (by omega), cite_neg (by omega)]
  have bad : ¬ (m = 3 ∧ b.2.2.1 ≠ []) → Cl lay1 (d + 2) M_R_fails [aO 12 71, aI (2 : Int32)] σ (rI fun r2 σ1 => (r2 = 0 ∨ r2 = 1) ∧ Q (some (aI r2)) σ1) := by
    intro nn
    refine sp_fails (d := d + 1) (c := 2) hk hko hB.2.2.1.1 (fun τ ff => ⟨b01, hf τ _ _ ff ?_ ?_⟩)
    · split <;> omega
    · rw [if_neg (by omega)]
      refine prP_l ha ?_
      rcases hm with q | q
      · subst q
        exact (cite_neg (by omega)).trans item2
      · subst q
        have e1 : stp (b, 3, 0, 0, 0, 0) (tok t a) = stIC b (tok t a) := cite_neg (by omega)
        rw [e1]
        unfold stIC
        rw [cite_neg]
        · exact item2
        · rintro (⟨z1, z2⟩ | ⟨z1, z2⟩)
          · exact nn ⟨rfl, z1⟩
          · have h41b := h41.2
            have := z2.2
            omega
  refine bk_R_closes_0 ?_
  rw [e23, show (0 : Int32) = nI 0 from rfl, nI_eq (by omega) (by omega), ix_nI (by omega), h84]
  refine ⟨fun z => bad (fun y => y.2 (List.eq_nil_of_length_eq_zero z)), fun z => ⟨by rw [hB.1.at 84 8 (by decide)]; exact inb_nI (by omega) (by omega), fun z2 => bad (fun y => ?_), fun z2 => ⟨by rw [hB.1.at 83 8 (by decide)]; exact inb_nI (by omega) (by omega), ?_⟩⟩⟩
  · rw [if_pos y.1] at z2; exact absurd z2 (by decide)
  have hm3 : m = 3 := by
    rcases hm with q | q
    · rw [if_neg (by omega)] at z2; exact absurd rfl z2
    · exact q
  subst hm3
  cases eo : b.2.2.1 with
  | nil => rw [eo] at z; exact absurd rfl z
  | cons q r =>
  have hq := hbo.2.2.1.2 q (by rw [eo]; exact List.mem_cons_self)
  have hlen : b.2.2.1.length = r.length + 1 := by rw [eo]; rfl
  have hrev : b.2.2.1.reverse[r.length]? = some q := by
    rw [eo, List.reverse_cons, List.getElem?_append_right (by rw [List.length_reverse]; exact Nat.le_refl _), List.length_reverse, Nat.sub_self]
    rfl
  obtain ⟨e83, e82⟩ := hB.2.2.2.2.2.2 _ _ hrev
  have h6 : r.length + 1 ≤ 6 := by omega
  show Wp lay1 rtOf (Cl lay1 (d + 2)) k_R_closes 2 Q (42, [aO 12 71, aI (gI σ 83 (q :: r).length), aI (gI σ 71 17), aI (nI 1), aZ], [], σ)
  have e83' : gI σ 83 (q :: r).length = nI q.1 := e83
  rw [e83', hB.2.2.2.2.1.1]
  refine sp_rr_outer (d := d) (f := q.1) (n := q.2) (o := r.length + 1) rfl h80 hq.2.2 hq.1 (by omega) (q.2 - 1) 1 b.2.1 _ σ Q (by omega) hB.1 hB.2.2.2.2.1 hbo.2.1 ⟨[], (List.append_nil _).symm⟩ (by rw [e23, hlen]) e82 (fun τ x4 a1 hw' => ?_)
  have f23 : gI τ 71 23 = nI (r.length + 1) := by rw [a1.2.2.2.2.1 71 23 (by omega) (by omega), e23, hlen]
  have f82 : gI τ 82 (r.length + 1) = nI q.2 := by rw [a1.2.2.2.2.1 82 _ (by omega) (by omega)]; exact e82
  have lnt := hB.1.of a1.2.2.1
  refine bk_R_closes_42 _ _ _ _ ⟨by rw [f23, lnt.at 82 8 (by decide)]; exact inb_nI (by omega) (by omega), fun _ => ?_, fun c => absurd ?_ c⟩
  · rw [f23, nI_pred]
    have g1 : gI (pI τ 71 23 (nI r.length)) 71 23 = nI r.length := by rw [gI_pI, if_pos ⟨rfl, rfl⟩]
    rw [g1, ix_nI (by omega)]
    refine ⟨by show inb _ (gN τ 84); rw [lnt.at 84 8 (by decide)]; exact inb_nI (by omega) (by omega), ?_⟩
    rw [show vp_nar .boolean (1 : Int32) = 1 from rfl]
    have rt := hB.row a1 hw'
    have kt := a1.tk hk
    have a2 : fR σ (pI (pI τ 71 23 (nI r.length)) 84 r.length 1) := (a1.f.trans (fR_pI (j := 71) (k := 23) _ (by omega))).trans (fR_pI (j := 84) _ (by omega))
    have eI : ∀ j i, ¬ (j = 71 ∧ i = 23) → j ≠ 84 → gI (pI (pI τ 71 23 (nI r.length)) 84 r.length 1) j i = gI τ j i := fun j i x1 x2 => by rw [gI_pI, if_neg (by omega), gI_pI, if_neg x1]
    have e84 : gI (pI (pI τ 71 23 (nI r.length)) 84 r.length 1) 84 r.length = 1 := by rw [gI_pI, if_pos ⟨rfl, rfl⟩]
    have e23' : gI (pI (pI τ 71 23 (nI r.length)) 84 r.length 1) 71 23 = nI r.length := by rw [gI_pI, if_neg (by omega)]; exact g1
    have eL : gL (pI (pI τ 71 23 (nI r.length)) 84 r.length 1) = gL τ := rfl
    generalize pI (pI τ 71 23 (nI r.length)) 84 r.length 1 = τ2 at a2 eI e84 e23' eL
    obtain ⟨x1, x2, x3, x4, x5, x6⟩ := rt
    have r2 : riB τ2 t (b.1, rrep b.2.1 q.1 q.2, r, b.2.2.2) := by
      refine ⟨hB.1.of a2.2.2.1, ⟨(eI 71 1 (by omega) (by omega)).trans x2.1, fun i hi => (eI 72 i (by omega) (by omega)).trans (x2.2 i hi)⟩, ⟨(eI 71 6 (by omega) (by omega)).trans x3.1, (eI 71 7 (by omega) (by omega)).trans x3.2⟩, x4.of (eI _ _ (by omega) (by omega)) (eI _ _ (by omega) (by omega)) (fun k => by rw [eL]) (fun k => eI _ _ (by omega) (by omega)) (fun k => eI _ _ (by omega) (by omega)) (fun k => eI _ _ (by omega) (by omega)) (fun k => by rw [eL]) (fun k => by rw [eL]), x5.of (fun k _ _ => eI _ _ (by omega) (by omega)) (fun k => eI _ _ (by omega) (by omega)) (fun k => by rw [eL]) (fun k => by rw [eL]), ⟨e23', fun i y hy => ?_⟩⟩
      have hy' : b.2.2.1.reverse[i]? = some y := by
        rw [eo, List.reverse_cons, List.getElem?_append_left (List.getElem?_eq_some_iff.mp hy).1]
        exact hy
      rw [eI 83 _ (by omega) (by omega), eI 82 _ (by omega) (by omega)]
      exact x6.2 i y hy'
    have n2 : gI τ2 71 2 = nI (tok t a).2.2.2.2 := (eI 71 2 (by omega) (by omega)).trans kt.2.2.1
    have st : stp (b, 3, 0, 0, 0, 0) (tok t a) = .inr ((b.1, rrep b.2.1 q.1 q.2, r, b.2.2.2), 3, 0, 0, 0, 0) := by
      have e1 : stp (b, 3, 0, 0, 0, 0) (tok t a) = stIC b (tok t a) := cite_neg (by omega)
      rw [e1]
      unfold stIC
      rw [cite_pos (show clo b (tok t a) from Or.inl ⟨by rw [eo]; simp, h41⟩)]
      unfold stClose
      rw [eo]
    have es := prP_s ha st (by omega)
    refine sp_rnext (d := d) r2.1 r2.2.1 hto hpos.1 n2 (fun υ v1 v2 => ⟨b11, ?_⟩)
    have ok := stClose_ok hbo (show stClose b = .inr ((b.1, rrep b.2.1 q.1 q.2, r, b.2.2.2), 3, 0, 0, 0, 0) by unfold stClose; rw [eo])
    refine hs υ _ (b.1, rrep b.2.1 q.1 q.2, r, b.2.2.2) 3 (a2.trans v1.f) ⟨v1.g.ri r2, v2, hpos.1, ?_⟩ (ok.2.2.1 (Nat.succ_ne_zero _)) rfl rfl hlt (Or.inr rfl) es
    rw [v1.2.2.2.2.1 84 _ (by omega)]
    exact e84
  · rw [f23, ix_nI (by omega), f82]
    exact (nI_leI (by omega) (by omega)).mpr (Nat.le_refl _)
end RCLOSE
