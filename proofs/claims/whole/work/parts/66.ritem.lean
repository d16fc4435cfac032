/-! ===== LAYER 3, F: the reference's reading: items ===== -/
def RI (σ : St) (t : Tx) (a : Nat) (b : Ba) (m : Nat) : Prop := riB σ t b ∧ tkR σ (tok t a) ∧ a ≤ t.1 ∧ gI σ 84 b.2.2.1.length = (if m = 3 then 1 else 0)
def ndL (ls : List Ln) : Prop := (ls.map (fun x => x.1)).Nodup
theorem fnd_none {ls : List Ln} {nm : List Nat} (h : ∀ l ∈ ls, l.1 ≠ nm) : fnd ls nm = none := by
  unfold fnd
  rw [List.find?_eq_none.mpr (fun l hl => by simpa using h l hl)]
  rfl
theorem fnd_some : ∀ {ls : List Ln} {nm : List Nat} {l : Ln}, ndL ls → l ∈ ls → l.1 = nm → fnd ls nm = some l.2
  | [], _, _, _, h, _ => absurd h (by simp)
  | x :: r, nm, l, hn, h, e => by
    have hn : ((x :: r).map (fun x => x.1)).Nodup := hn
    rw [List.map_cons, List.nodup_cons] at hn
    unfold fnd
    by_cases c : x.1 = nm
    · rw [List.find?_cons_of_pos (by simp [c])]
      rcases List.mem_cons.mp h with z | z
      · rw [z]; rfl
      · exfalso
        exact hn.1 (by rw [c, ← e]; exact List.mem_map_of_mem z)
    · rw [List.find?_cons_of_neg (by simp [c])]
      rcases List.mem_cons.mp h with z | z
      · rw [z] at e; exact absurd e c
      · exact fnd_some (ls := r) hn.2 z e
theorem riB.row {σ τ : St} {t : Tx} {b : Ba} {w : Rw} (h : riB σ t b) (a : fB σ τ) (hw : rowR τ w) : riB τ t (b.1, w, b.2.2.1, b.2.2.2) := by
  obtain ⟨h1, h2, h3, h4, h5, h6⟩ := h
  exact ⟨h1.of a.2.2.1, a.tx h2, ⟨(a.2.2.2.2.1 71 6 (by omega) (by omega)).trans h3.1, (a.2.2.2.2.1 71 7 (by omega) (by omega)).trans h3.2⟩, a.lines h4, hw, ⟨(a.2.2.2.2.1 71 23 (by omega) (by omega)).trans h6.1, fun i q hq => ⟨(a.2.2.2.2.1 83 _ (by omega) (by omega)).trans (h6.2 i q hq).1, (a.2.2.2.2.1 82 _ (by omega) (by omega)).trans (h6.2 i q hq).2⟩⟩⟩
theorem riB.p84 {σ : St} {t : Tx} {b : Ba} (h : riB σ t b) (k : Nat) (v : Int32) : riB (pI σ 84 k v) t b := by
  obtain ⟨h1, h2, h3, h4, h5, h6⟩ := h
  have e : ∀ j i, j ≠ 84 → gI (pI σ 84 k v) j i = gI σ j i := fun j i q => by rw [gI_pI, if_neg (by omega)]
  exact ⟨h1.of rfl, ⟨(e 71 1 (by omega)).trans h2.1, fun i hi => (e 72 i (by omega)).trans (h2.2 i hi)⟩, ⟨(e 71 6 (by omega)).trans h3.1, (e 71 7 (by omega)).trans h3.2⟩, h4.of (e _ _ (by omega)) (e _ _ (by omega)) (fun _ => rfl) (fun k => e _ _ (by omega)) (fun k => e _ _ (by omega)) (fun k => e _ _ (by omega)) (fun _ => rfl) (fun _ => rfl), h5.of (fun k _ _ => e _ _ (by omega)) (fun k => e _ _ (by omega)) (fun _ => rfl) (fun _ => rfl), ⟨(e 71 23 (by omega)).trans h6.1, fun i q hq => ⟨(e 83 _ (by omega)).trans (h6.2 i q hq).1, (e 82 _ (by omega)).trans (h6.2 i q hq).2⟩⟩⟩
section RITEM
variable {d : Nat}
theorem sp_pool_loop {L : Ln} {kx B P : Nat} (hkx : kx < 400) (hB : B + L.2.length ≤ P) (hP : P ≤ 32000) : ∀ (l pre : List Pt) (w : Rw) (σ : St) (Q : Option AV → St → Prop), L.2 = pre ++ l → LN σ → rowR σ w → rwOK w → (∀ q ∈ l, ptK q) → L.2.length ≤ 80 → gI σ 74 kx = nI B → gI σ 75 kx = nI L.2.length → (∀ i q, L.2[i]? = some q → gI σ 76 (B + i) = nI q.1 ∧ gL σ 77 (B + i) = L64 q.2.1 ∧ gL σ 78 (B + i) = L64 q.2.2) → (∀ τ x2, fB σ τ → rowR τ (rfold w l) → Cl lay1 (d + 2) M_R_next [aO 12 71] τ (rV fun σ1 => Wp lay1 rtOf (Cl lay1 (d + 2)) k_R_item 2 Q (385, [aO 12 71, aI (nI kx), aI x2], [], σ1))) → Wp lay1 rtOf (Cl lay1 (d + 2)) k_R_item 2 Q (322, [aO 12 71, aI (nI kx), aI (nI pre.length)], [], σ) := by
  intro l
  induction l with
  | nil =>
    intro pre w σ Q e hln hw hwo hk h80 h74 h75 hp h
    rw [List.append_nil] at e
    refine bk_R_item_322 _ _ ⟨by rw [hln.at 75 400 (by decide)]; exact inb_nI hkx (by omega), fun _ => h σ _ (fB.rf _) hw, fun c => absurd ?_ c⟩
    rw [ix_nI (by omega), h75, e]
    exact (nI_leI (by rw [e] at h80; omega) (by rw [e] at h80; omega)).mpr (Nat.le_refl _)
  | cons q l ih =>
    intro pre w σ Q e hln hw hwo hk h80 h74 h75 hp h
    have hlen : pre.length < L.2.length := by
      rw [e, List.length_append]
      show pre.length < pre.length + (l.length + 1)
      omega
    have hq : L.2[pre.length]? = some q := by
      rw [e, List.getElem?_append_right (Nat.le_refl _), Nat.sub_self]
      rfl
    obtain ⟨p1, p2, p3⟩ := hp _ _ hq
    have hqk := hk q List.mem_cons_self
    have ei : gI σ 74 (ix (nI kx)) + nI pre.length = nI (B + pre.length) := by rw [ix_nI (by omega), h74, nI_add]
    refine bk_R_item_322 _ _ ⟨by rw [hln.at 75 400 (by decide)]; exact inb_nI hkx (by omega), fun c => absurd c ?_, fun _ => ?_⟩
    · rw [ix_nI (by omega), h75, nI_leI (by omega) (by omega)]; omega
    rw [ei, ix_nI (show B + pre.length < 2147483648 by omega)]
    have b74 : inb (nI kx) (gN σ 74) := by rw [hln.at 74 400 (by decide)]; exact inb_nI hkx (by omega)
    refine ⟨b74, by rw [hln.at 76 32000 (by decide)]; exact inb_nI (by omega) (by omega), b74, by rw [hln.at 77 32000 (by decide)]; exact inb_nI (by omega) (by omega), b74, by rw [hln.at 78 32000 (by decide)]; exact inb_nI (by omega) (by omega), ?_⟩
    rw [p1, p2, p3]
    refine sp_adds (d := d) hln hw hwo hqk.1 hqk.2.1.1 ⟨hqk.2.1.2.1, hqk.2.1.2.2⟩ (fun τ a hw' => ?_)
    rw [lowF_id hqk.2.2] at hw'
    show Wp lay1 rtOf (Cl lay1 (d + 2)) k_R_item 2 Q (322, [aO 12 71, aI (nI kx), aI (nI pre.length + 1)], [], τ)
    rw [nI_1]
    have en : pre.length + 1 = (pre ++ [q]).length := by rw [List.length_append]; rfl
    rw [en]
    have eI := a.2.2.2.2.1
    have eL := a.2.2.2.2.2
    refine ih (pre ++ [q]) (radd w q) τ Q (by rw [e, List.append_assoc]; rfl) (hln.of a.2.2.1) hw' (radd_ok hwo hqk) (fun x hx => hk x (List.mem_cons_of_mem _ hx)) h80 ((eI 74 kx (by omega) (by omega)).trans h74) ((eI 75 kx (by omega) (by omega)).trans h75) (fun i x hx => ?_) (fun υ x2 b1 b2 => h υ x2 (a.trans b1) b2)
    obtain ⟨z1, z2, z3⟩ := hp i x hx
    exact ⟨(eI 76 _ (by omega) (by omega)).trans z1, (eL 77 _ (by omega) (by omega)).trans z2, (eL 78 _ (by omega) (by omega)).trans z3⟩
theorem sp_item {σ : St} {Q : Option AV → St → Prop} {t : Tx} {b : Ba} {a m : Nat} (hto : txOK t) (hr : RI σ t a b m) (hbo : baOK b) (hnd : ndL b.1) (hle : b.1.length ≤ 399) (hst : (tok t a).1 ≠ 4 → stp (b, m, 0, 0, 0, 0) (tok t a) = stItem b (tok t a)) (hs : ∀ τ a' b' m', fR σ τ → RI τ t a' b' m' → baOK b' → b'.1 = b.1 → b'.2.2.2 = b.2.2.2 → a < a' → (m' = 2 ∨ m' = 3) → prP t a (b, m, 0, 0, 0, 0) = prP t a' (b', m', 0, 0, 0, 0) → Q (some (aI 1)) τ) (hf : ∀ τ c pl, flP σ c pl τ → 1 ≤ c ∧ c ≤ 4 → prP t a (b, m, 0, 0, 0, 0) = .inl (c, pl) → Q (some (aI 0)) τ) : Cl lay1 (d + 4) M_R_item [aO 12 71] σ Q := by
  obtain ⟨hB, hk, ha, h84⟩ := hr
  have hko := tok_ok hto ha
  have hpos := tok_pos ha
  have hl6 := hbo.2.2.1.1
  have e4 : ∀ c, c ≤ 4 → (gI σ 71 4 = nI c ↔ (tok t a).1 = c) := fun c hc => by
    have := hko.1
    rw [hk.1, nI_eq (by omega) (by omega)]
  refine bk_R_item_0 ?_
  have e42 : gI σ 71 4 = (2 : Int32) ↔ (tok t a).1 = 2 := e4 2 (by omega)
  have e41 : gI σ 71 4 = (1 : Int32) ↔ (tok t a).1 = 1 := e4 1 (by omega)
  rw [e42, e41]
  refine ⟨fun c2 => ?_, fun c2 => ⟨fun c1 => ?_, fun c1 => ?_⟩⟩
  · have hv := hko.2.2.1 c2
    have hst' := hst (by omega)
    unfold stItem at hst'
    rw [cite_pos c2] at hst'
    rw [hk.2.2.2.2.1 c2, show (40 : Int64) = L64 40 by decide, show (1 : Int64) = L64 1 from rfl]
    refine sp_in (d := d + 2) (by omega) (by omega) (by omega) (by omega) (by omega) (by omega) (fun c40 => ⟨fun z => absurd z (by decide), fun _ => ?_⟩) (fun c40 => ⟨fun _ => ?_, fun z => absurd rfl z⟩)
    · rw [cite_pos (by omega)] at hst'
      have es := prP_s ha hst' (by omega)
      have hlt := hpos.2.2.2.1 (by omega)
      refine sp_rnext (d := d + 1) hB.1 hB.2.1 hto hpos.1 hk.2.2.1 (fun σ1 b1 k1 => ?_)
      have r1 := b1.g.ri hB
      have hko1 := tok_ok hto hpos.1
      have hpos1 := tok_pos hpos.1
      generalize hA1 : (tok t a).2.2.2.2 = A1 at es hlt k1 hko1 hpos1 hpos
      have hA1' : A1 ≤ t.1 := hpos.1
      have st8 : (tok t A1).1 ≠ 4 → stp (b, 8, 0, 0, 0, (tok t a).2.1) (tok t A1) = cite (isS (tok t A1) 42) (.inr (b, 9, 0, 0, 0, (tok t a).2.1)) (.inl 2) := fun z => cite_neg z
      refine sp_isSign (d := d + 2) (c := 42) k1 hko1 (by omega) (fun c42 => ⟨fun z => absurd z (by decide), fun _ => ?_⟩) (fun c42 => ⟨fun _ => ?_, fun z => absurd rfl z⟩)
      · have c3 := c42.1
        have es1 := prP_s hA1' (by rw [st8 (by omega), cite_pos c42]) (by omega)
        have hlt1 := hpos1.2.2.2.1 (by omega)
        refine sp_rnext (d := d + 1) r1.1 r1.2.1 hto hpos1.1 k1.2.2.1 (fun σ2 b2 k2 => ?_)
        have a2 := b1.g.trans b2.g
        have r2 := a2.ri hB
        have hko2 := tok_ok hto hpos1.1
        have hpos2 := tok_pos hpos1.1
        generalize hA2 : (tok t A1).2.2.2.2 = A2 at es1 hlt1 k2 hko2 hpos2 hpos1
        have hA2' : A2 ≤ t.1 := hpos1.1
        have st9 : (tok t A2).1 ≠ 4 → stp (b, 9, 0, 0, 0, (tok t a).2.1) (tok t A2) = cite (isS (tok t A2) 40) (cite (6 ≤ b.2.2.1.length) (.inl 3) (.inr ((b.1, b.2.1, (b.2.1.1.length, (tok t a).2.1) :: b.2.2.1, b.2.2.2), 2, 0, 0, 0, 0))) (.inl 2) := fun z => cite_neg z
        refine sp_isSign (d := d + 2) (c := 40) k2 hko2 (by omega) (fun cO => ⟨fun z => absurd z (by decide), fun _ => ?_⟩) (fun cO => ⟨fun _ => ?_, fun z => absurd rfl z⟩)
        · have c3' := cO.1
          have st9' := st9 (by omega)
          rw [cite_pos cO] at st9'
          have e23 : gI σ2 71 23 = nI b.2.2.1.length := r2.2.2.2.2.2.1
          show (gI σ2 71 23 = 6 → _) ∧ (¬ gI σ2 71 23 = 6 → _)
          rw [e23, show (6 : Int32) = nI 6 from rfl, nI_eq (by omega) (by omega)]
          refine ⟨fun z6 => ?_, fun z6 => ?_⟩
          · rw [cite_pos (by omega)] at st9'
            refine sp_fails (d := d + 2) (c := 3) k2 hko2 r2.2.2.1.1 (fun τ ff => ⟨b01, hf τ _ _ ⟨a2.f.trans ff.1, ff.2⟩ ?_ ?_⟩)
            · split <;> omega
            · rw [if_neg (by omega), es, es1]
              exact prP_l hA2' st9'
          · rw [cite_neg (by omega)] at st9'
            have es2 := prP_s hA2' st9' (by omega)
            have hlt2 := hpos2.2.2.2.1 (by omega)
            rw [nI_1]
            have g1 : gI (pI σ2 71 23 (nI (b.2.2.1.length + 1))) 71 23 = nI (b.2.2.1.length + 1) := by rw [gI_pI, if_pos ⟨rfl, rfl⟩]
            rw [g1, ix_nI (by omega), L64_I32, ← nI_I32]
            have g2 : gI (pI (pI σ2 71 23 (nI (b.2.2.1.length + 1))) 82 (b.2.2.1.length + 1) (nI (tok t a).2.1)) 71 23 = nI (b.2.2.1.length + 1) := by rw [gI_pI, if_neg (by omega)]; exact g1
            have g3 : gI (pI (pI σ2 71 23 (nI (b.2.2.1.length + 1))) 82 (b.2.2.1.length + 1) (nI (tok t a).2.1)) 71 17 = nI b.2.1.1.length := by rw [gI_pI, if_neg (by omega), gI_pI, if_neg (by omega)]; exact r2.2.2.2.2.1.1
            rw [g2, g3, ix_nI (by omega)]
            have g4 : gI (pI (pI (pI σ2 71 23 (nI (b.2.2.1.length + 1))) 82 (b.2.2.1.length + 1) (nI (tok t a).2.1)) 83 (b.2.2.1.length + 1) (nI b.2.1.1.length)) 71 23 = nI (b.2.2.1.length + 1) := by rw [gI_pI, if_neg (by omega)]; exact g2
            rw [g4, ix_nI (by omega)]
            have lnn : ∀ j, (j, 8) ∈ lnL → inb (nI (b.2.2.1.length + 1)) (gN σ2 j) := fun j hj => by rw [r2.1.at j 8 hj]; exact inb_nI (by omega) (by omega)
            refine ⟨lnn 82 (by decide), lnn 83 (by decide), lnn 84 (by decide), ?_⟩
            show Cl lay1 (d + 3) M_R_next [aO 12 71] (pI (pI (pI (pI σ2 71 23 (nI (b.2.2.1.length + 1))) 82 (b.2.2.1.length + 1) (nI (tok t a).2.1)) 83 (b.2.2.1.length + 1) (nI b.2.1.1.length)) 84 (b.2.2.1.length + 1) 0) _
            have eO : ∀ j i, ¬ (j = 71 ∧ i = 23) → j ≠ 82 → j ≠ 83 → j ≠ 84 → gI (pI (pI (pI (pI σ2 71 23 (nI (b.2.2.1.length + 1))) 82 (b.2.2.1.length + 1) (nI (tok t a).2.1)) 83 (b.2.2.1.length + 1) (nI b.2.1.1.length)) 84 (b.2.2.1.length + 1) 0) j i = gI σ2 j i := fun j i x1 x2 x3 x4 => by rw [gI_pI, if_neg (by omega), gI_pI, if_neg (by omega), gI_pI, if_neg (by omega), gI_pI, if_neg x1]
            have e23' : gI (pI (pI (pI (pI σ2 71 23 (nI (b.2.2.1.length + 1))) 82 (b.2.2.1.length + 1) (nI (tok t a).2.1)) 83 (b.2.2.1.length + 1) (nI b.2.1.1.length)) 84 (b.2.2.1.length + 1) 0) 71 23 = nI (b.2.2.1.length + 1) := by rw [gI_pI, if_neg (by omega)]; exact g4
            have e82 : ∀ i, gI (pI (pI (pI (pI σ2 71 23 (nI (b.2.2.1.length + 1))) 82 (b.2.2.1.length + 1) (nI (tok t a).2.1)) 83 (b.2.2.1.length + 1) (nI b.2.1.1.length)) 84 (b.2.2.1.length + 1) 0) 82 i = if i = b.2.2.1.length + 1 then nI (tok t a).2.1 else gI σ2 82 i := fun i => by
              rw [gI_pI, if_neg (by omega), gI_pI, if_neg (by omega), gI_pI]
              by_cases z : i = b.2.2.1.length + 1
              · rw [if_pos ⟨rfl, z⟩, if_pos z]
              · rw [if_neg (by omega), if_neg z, gI_pI, if_neg (by omega)]
            have e83 : ∀ i, gI (pI (pI (pI (pI σ2 71 23 (nI (b.2.2.1.length + 1))) 82 (b.2.2.1.length + 1) (nI (tok t a).2.1)) 83 (b.2.2.1.length + 1) (nI b.2.1.1.length)) 84 (b.2.2.1.length + 1) 0) 83 i = if i = b.2.2.1.length + 1 then nI b.2.1.1.length else gI σ2 83 i := fun i => by
              rw [gI_pI, if_neg (by omega), gI_pI]
              by_cases z : i = b.2.2.1.length + 1
              · rw [if_pos ⟨rfl, z⟩, if_pos z]
              · rw [if_neg (by omega), if_neg z, gI_pI, if_neg (by omega), gI_pI, if_neg (by omega)]
            have e84 : gI (pI (pI (pI (pI σ2 71 23 (nI (b.2.2.1.length + 1))) 82 (b.2.2.1.length + 1) (nI (tok t a).2.1)) 83 (b.2.2.1.length + 1) (nI b.2.1.1.length)) 84 (b.2.2.1.length + 1) 0) 84 (b.2.2.1.length + 1) = 0 := by rw [gI_pI, if_pos ⟨rfl, rfl⟩]
            have a3 : fR σ (pI (pI (pI (pI σ2 71 23 (nI (b.2.2.1.length + 1))) 82 (b.2.2.1.length + 1) (nI (tok t a).2.1)) 83 (b.2.2.1.length + 1) (nI b.2.1.1.length)) 84 (b.2.2.1.length + 1) 0) := ((((a2.f.trans (fR_pI (j := 71) (k := 23) _ (by omega))).trans (fR_pI (j := 82) _ (by omega))).trans (fR_pI (j := 83) _ (by omega))).trans (fR_pI (j := 84) _ (by omega)))
            have eL : gL (pI (pI (pI (pI σ2 71 23 (nI (b.2.2.1.length + 1))) 82 (b.2.2.1.length + 1) (nI (tok t a).2.1)) 83 (b.2.2.1.length + 1) (nI b.2.1.1.length)) 84 (b.2.2.1.length + 1) 0) = gL σ2 := rfl
            generalize pI (pI (pI (pI σ2 71 23 (nI (b.2.2.1.length + 1))) 82 (b.2.2.1.length + 1) (nI (tok t a).2.1)) 83 (b.2.2.1.length + 1) (nI b.2.1.1.length)) 84 (b.2.2.1.length + 1) 0 = σ3 at eO e23' e82 e83 e84 a3 eL
            obtain ⟨x1, x2, x3, x4, x5, x6⟩ := r2
            have r3 : riB σ3 t (b.1, b.2.1, (b.2.1.1.length, (tok t a).2.1) :: b.2.2.1, b.2.2.2) := by
              refine ⟨hB.1.of a3.2.2.1, ⟨(eO 71 1 (by omega) (by omega) (by omega) (by omega)).trans x2.1, fun i hi => (eO 72 i (by omega) (by omega) (by omega) (by omega)).trans (x2.2 i hi)⟩, ⟨(eO 71 6 (by omega) (by omega) (by omega) (by omega)).trans x3.1, (eO 71 7 (by omega) (by omega) (by omega) (by omega)).trans x3.2⟩, x4.of (eO _ _ (by omega) (by omega) (by omega) (by omega)) (eO _ _ (by omega) (by omega) (by omega) (by omega)) (fun k => by rw [eL]) (fun k => eO _ _ (by omega) (by omega) (by omega) (by omega)) (fun k => eO _ _ (by omega) (by omega) (by omega) (by omega)) (fun k => eO _ _ (by omega) (by omega) (by omega) (by omega)) (fun k => by rw [eL]) (fun k => by rw [eL]), x5.of (fun k _ _ => eO _ _ (by omega) (by omega) (by omega) (by omega)) (fun k => eO _ _ (by omega) (by omega) (by omega) (by omega)) (fun k => by rw [eL]) (fun k => by rw [eL]), ⟨e23', fun i q hq => ?_⟩⟩
              have hq : (b.2.2.1.reverse ++ [(b.2.1.1.length, (tok t a).2.1)])[i]? = some q := by rw [← List.reverse_cons]; exact hq
              rw [e83, e82]
              by_cases z : i < b.2.2.1.length
              · rw [if_neg (by omega), if_neg (by omega)]
                rw [List.getElem?_append_left (by rw [List.length_reverse]; exact z)] at hq
                exact x6.2 i q hq
              · have hlen := (List.getElem?_eq_some_iff.mp hq).1
                rw [List.length_append, List.length_reverse] at hlen
                have hi : i = b.2.2.1.length := by
                  have : [(b.2.1.1.length, (tok t a).2.1)].length = 1 := rfl
                  omega
                rw [if_pos (by omega), if_pos (by omega)]
                rw [List.getElem?_append_right (by rw [List.length_reverse]; omega), List.length_reverse, hi, Nat.sub_self] at hq
                have hq : some (b.2.1.1.length, (tok t a).2.1) = some q := hq
                cases hq
                exact ⟨rfl, rfl⟩
            have n3 : gI σ3 71 2 = nI (tok t A2).2.2.2.2 := (eO 71 2 (by omega) (by omega) (by omega) (by omega)).trans k2.2.2.1
            refine sp_rnext (d := d + 1) r3.1 r3.2.1 hto hpos2.1 n3 (fun σ4 b4 k4 => ⟨b11, ?_⟩)
            have r4 := b4.g.ri r3
            refine hs σ4 _ _ 2 (a3.trans b4.f) ⟨r4, k4, hpos2.1, ?_⟩ ?_ rfl rfl (by omega) (Or.inl rfl) (by rw [es, es1, es2])
            · rw [b4.2.2.2.2.1 84 _ (by omega)]
              exact e84
            · refine ⟨hbo.1, hbo.2.1, ⟨by show b.2.2.1.length + 1 ≤ 6; omega, fun x hx => ?_⟩, hbo.2.2.2⟩
              rcases List.mem_cons.mp hx with z | z
              · rw [z]; exact ⟨Nat.le_refl _, by show 1 ≤ (tok t a).2.1; omega, by show (tok t a).2.1 ≤ 40; omega⟩
              · exact hbo.2.2.1.2 x z
        · refine sp_fails (d := d + 2) (c := 2) k2 hko2 r2.2.2.1.1 (fun τ ff => ⟨b01, hf τ _ _ ⟨a2.f.trans ff.1, ff.2⟩ ?_ ?_⟩)
          · split <;> omega
          · rw [es, es1]
            by_cases z : (tok t A2).1 = 4
            · rw [if_pos z]
              exact prP_l hA2' (cite_pos z)
            · rw [if_neg z]
              exact prP_l hA2' (by rw [st9 z, cite_neg cO])
      · refine sp_fails (d := d + 2) (c := 2) k1 hko1 r1.2.2.1.1 (fun τ ff => ⟨b01, hf τ _ _ ⟨b1.f.trans ff.1, ff.2⟩ ?_ ?_⟩)
        · split <;> omega
        · rw [es]
          by_cases z : (tok t A1).1 = 4
          · rw [if_pos z]
            exact prP_l hA1' (cite_pos z)
          · rw [if_neg z]
            exact prP_l hA1' (by rw [st8 z, cite_neg c42])
    · rw [cite_neg (by omega)] at hst'
      refine sp_fails (d := d + 2) (c := 2) hk hko hB.2.2.1.1 (fun τ ff => ⟨b01, hf τ _ _ ff ?_ ?_⟩)
      · split <;> omega
      · rw [if_neg (by omega)]
        exact prP_l ha hst'
  · have hst' := hst (by omega)
    unfold stItem at hst'
    rw [cite_neg c2, cite_pos c1] at hst'
    have hle' := hko.2.1 c1
    have e23 : gI σ 71 23 = nI b.2.2.1.length := hB.2.2.2.2.2.1
    have hlt := hpos.2.2.2.1 (by omega)
    rw [e23, ix_nI (by omega)]
    refine ⟨by rw [hB.1.at 84 8 (by decide)]; exact inb_nI (by omega) (by omega), ?_⟩
    rw [show vp_nar .boolean (1 : Int32) = 1 from rfl]
    have aS : fR σ (pI σ 84 b.2.2.1.length 1) := fR_pI (j := 84) _ (by omega)
    have rS := hB.p84 b.2.2.1.length 1
    have kS : tkR (pI σ 84 b.2.2.1.length 1) (tok t a) := by
      obtain ⟨y1, y2, y3, y4⟩ := hk
      exact ⟨by rw [gI_pI, if_neg (by omega)]; exact y1, by rw [gI_pI, if_neg (by omega)]; exact y2, by rw [gI_pI, if_neg (by omega)]; exact y3, y4⟩
    have s84 : gI (pI σ 84 b.2.2.1.length 1) 84 b.2.2.1.length = 1 := by rw [gI_pI, if_pos ⟨rfl, rfl⟩]
    have ec : ∀ c : Nat, 1 ≤ c ∧ c ≤ 26 → (lg_cmp (gL (pI σ 84 b.2.2.1.length 1) 71 5) (L64 (c : Int)) = 0 ↔ (tok t a).2.2.1 = [c]) := fun c hc => by
      have e1 : (c : Int) = ((encL 27 [c] : Nat) : Int) := by
        show (c : Int) = ((0 * 27 + c : Nat) : Int)
        omega
      rw [kS.2.2.2.1 c1, e1, lg_cmp_eq, enc_eq (by omega) (by omega) hle' (one_ok hc)]
    have ec4 : lg_cmp (gL (pI σ 84 b.2.2.1.length 1) 71 5) (4 : Int64) = 0 ↔ (tok t a).2.2.1 = [4] := ec 4 (by omega)
    have ec17 : lg_cmp (gL (pI σ 84 b.2.2.1.length 1) 71 5) (17 : Int64) = 0 ↔ (tok t a).2.2.1 = [17] := ec 17 (by omega)
    have ec19 : lg_cmp (gL (pI σ 84 b.2.2.1.length 1) 71 5) (19 : Int64) = 0 ↔ (tok t a).2.2.1 = [19] := ec 19 (by omega)
    have ec11 : lg_cmp (gL (pI σ 84 b.2.2.1.length 1) 71 5) (11 : Int64) = 0 ↔ (tok t a).2.2.1 = [11] := ec 11 (by omega)
    have ec13 : lg_cmp (gL (pI σ 84 b.2.2.1.length 1) 71 5) (13 : Int64) = 0 ↔ (tok t a).2.2.1 = [13] := ec 13 (by omega)
    have e5S : gL (pI σ 84 b.2.2.1.length 1) 71 5 = L64 (encL 27 (tok t a).2.2.1 : Nat) := kS.2.2.2.1 c1
    generalize pI σ 84 b.2.2.1.length 1 = S at aS rS kS s84 ec4 ec17 ec19 ec11 ec13 e5S
    have figc : ∀ kd, kd ≤ 1 → stp (b, m, 0, 0, 0, 0) (tok t a) = .inr (b, 4, kd, 1, 0, 0) → Wp lay1 rtOf (Cl lay1 (d + 3)) k_R_item 2 Q (195, [aO 12 71, aZ, aZ], [aI (nI kd)], S) := by
      intro kd hkd st
      have es := prP_s ha st (by omega)
      refine bk_R_item_195 _ _ _ ?_
      refine sp_figure (d := d) (kd := kd) hto hpos.1 rS kS.2.2.1 (by omega) (by rw [if_neg (by omega)]) (fun τ a' up dn g1 g2 g3 g4 g5 g6 g7 g8 g9 g10 => ⟨fun z => absurd z (by decide), fun _ => ?_⟩) (fun τ c pl g1 g2 g3 => ⟨fun _ => ⟨b01, hf τ c pl ⟨aS.trans g1.1, g1.2⟩ g2 (es.trans g3)⟩, fun z => absurd rfl z⟩)
      rw [g6, g7]
      refine sp_adds (d := d + 1) g2.1 g2.2.2.2.2.1 hbo.2.1 (by omega) (by omega) (by omega) (fun υ u1 u2 => ⟨b11, ?_⟩)
      refine hs υ a' (endP b kd up dn) 3 ((aS.trans g1.f).trans u1.f) ⟨g2.row u1 u2, u1.tk g3, g4, ?_⟩ (endP_ok hbo (by omega) g8 g9.1) rfl rfl (by omega) (Or.inr rfl) (es.trans g10)
      show gI υ 84 b.2.2.1.length = 1
      rw [u1.2.2.2.2.1 84 _ (by omega) (by omega), g1.2.2.2.2.1 84 _ (by omega)]
      exact s84
    have nxt : ∀ (b' : Ba) (τ : St) (u1 u2 : AV), fR σ τ → riB τ t b' → tkR τ (tok t a) → gI τ 84 b'.2.2.1.length = 1 → baOK b' → b'.1 = b.1 → b'.2.2.2 = b.2.2.2 → stp (b, m, 0, 0, 0, 0) (tok t a) = .inr (b', 3, 0, 0, 0, 0) → Cl lay1 (d + 3) M_R_next [aO 12 71] τ (rV fun σ1 => Wp lay1 rtOf (Cl lay1 (d + 3)) k_R_item 2 Q (385, [aO 12 71, u1, u2], [], σ1)) := by
      intro b' τ u1 u2 g1 g2 g3 g4 g5 g6 g7 st
      have es := prP_s ha st (by omega)
      refine sp_rnext (d := d + 1) g2.1 g2.2.1 hto hpos.1 g3.2.2.1 (fun υ v1 v2 => ?_)
      refine bk_R_item_385 _ _ _ ⟨b11, hs υ _ b' 3 (g1.trans v1.f) ⟨v1.g.ri g2, v2, hpos.1, ?_⟩ g5 g6 g7 hlt (Or.inr rfl) es⟩
      rw [v1.2.2.2.2.1 84 _ (by omega)]
      exact g4
    have kmc : ∀ kd, (kd = 3 ∨ kd = 4) → stp (b, m, 0, 0, 0, 0) (tok t a) = .inr (endP b kd 0 1, 3, 0, 0, 0, 0) → Cl lay1 (d + 3) M_R_adds [aO 12 71, aI (nI kd), aJ (0 : Int64), aJ (1 : Int64)] S (rV fun σ1 => Wp lay1 rtOf (Cl lay1 (d + 3)) k_R_item 2 Q (298, [aO 12 71, aZ, aZ], [], σ1)) := by
      intro kd hkd st
      refine sp_adds (d := d + 1) (a := 0) (c := 1) rS.1 rS.2.2.2.2.1 hbo.2.1 (by omega) (by decide) (by omega) (fun τ u1 u2 => ?_)
      refine bk_R_item_298 _ _ (nxt (endP b kd 0 1) τ _ _ (aS.trans u1.f) (rS.row u1 u2) (u1.tk kS) ?_ (endP_ok hbo (by omega) (by decide) (by omega)) rfl rfl st)
      show gI τ 84 b.2.2.1.length = 1
      rw [u1.2.2.2.2.1 84 _ (by omega) (by omega)]
      exact s84
    rw [ec4, ec17, ec19, ec11, ec13]
    refine ⟨fun q4 => ?_, fun q4 => ⟨fun q17 => ?_, fun q17 => ⟨fun q19 => ?_, fun q19 => ⟨fun q11 => ?_, fun q11 => ⟨fun q13 => ?_, fun q13 => ?_⟩⟩⟩⟩⟩
    · rw [cite_pos q4] at hst'
      refine bk_R_item_179 _ _ ?_
      rw [ec4]
      exact ⟨fun _ => figc 0 (by omega) hst', fun z => absurd q4 z⟩
    · rw [cite_neg q4, cite_pos q17] at hst'
      refine bk_R_item_179 _ _ ?_
      rw [ec4]
      exact ⟨fun z => absurd z q4, fun _ => figc 1 (by omega) hst'⟩
    · rw [cite_neg q4, cite_neg q17, cite_pos q19] at hst'
      have es := prP_s ha hst' (by omega)
      refine sp_figure (d := d) (kd := 2) hto hpos.1 rS kS.2.2.1 (by omega) (by rw [if_pos rfl]) (fun τ a' up dn g1 g2 g3 g4 g5 g6 g7 g8 g9 g10 => ⟨fun z => absurd z (by decide), fun _ => ?_⟩) (fun τ c pl g1 g2 g3 => ⟨fun _ => ⟨b01, hf τ c pl ⟨aS.trans g1.1, g1.2⟩ g2 (es.trans g3)⟩, fun z => absurd rfl z⟩)
      have hdn := g9.2 rfl
      subst hdn
      rw [g6]
      refine sp_adds (d := d + 1) (k := 2) (c := 1) g2.1 g2.2.2.2.2.1 hbo.2.1 (by omega) (by omega) (by omega) (fun υ u1 u2 => ⟨b11, ?_⟩)
      refine hs υ a' (endP b 2 up 1) 3 ((aS.trans g1.f).trans u1.f) ⟨g2.row u1 u2, u1.tk g3, g4, ?_⟩ (endP_ok hbo (by omega) g8 (by omega)) rfl rfl (by omega) (Or.inr rfl) (es.trans g10)
      show gI υ 84 b.2.2.1.length = 1
      rw [u1.2.2.2.2.1 84 _ (by omega) (by omega), g1.2.2.2.2.1 84 _ (by omega)]
      exact s84
    · rw [cite_neg q4, cite_neg q17, cite_neg q19, cite_pos q11] at hst'
      refine bk_R_item_276 _ _ ?_
      rw [ec11]
      exact ⟨fun _ => kmc 3 (by omega) hst', fun z => absurd q11 z⟩
    · rw [cite_neg q4, cite_neg q17, cite_neg q19, cite_neg q11, cite_pos q13] at hst'
      refine bk_R_item_276 _ _ ?_
      rw [ec11]
      exact ⟨fun z => absurd z q11, fun _ => kmc 4 (by omega) hst'⟩
    · rw [cite_neg q4, cite_neg q17, cite_neg q19, cite_neg q11, cite_neg q13] at hst'
      rw [e5S]
      refine sp_named (d := d + 2) rS.1 rS.2.2.2.1 hbo.1 hle hle' (fun hno => ⟨fun z => absurd z (by decide), fun _ => ?_⟩) (fun kx l hkx el => ⟨fun _ => ?_, fun z => absurd ?_ z⟩)
      · rw [fnd_none hno] at hst'
        refine sp_fails (d := d + 2) (c := 2) kS hko rS.2.2.1.1 (fun τ ff => ⟨b01, hf τ _ _ ⟨aS.trans ff.1, ff.2⟩ ?_ ?_⟩)
        · split <;> omega
        · rw [if_neg (by omega)]
          exact prP_l ha hst'
      · have hkl := (List.getElem?_eq_some_iff.mp hkx).1
        rw [List.length_reverse] at hkl
        have hmem : l ∈ b.1 := List.mem_reverse.mp (List.mem_of_getElem? hkx)
        rw [fnd_some hnd hmem el] at hst'
        obtain ⟨P, hP1, hP2, hP3⟩ := rS.2.2.2.1.2
        obtain ⟨-, B, hB1, hB2, hB3, hB4⟩ := hP3 kx l hkx
        have hlo := (hbo.1 l hmem).1
        obtain ⟨xe, hxe⟩ := rfold_ext l.2 b.2.1
        refine sp_pool_loop (d := d + 1) (L := l) (kx := kx) (B := B) (P := P) (by omega) hB3 (by omega) l.2 [] b.2.1 S Q rfl rS.1 rS.2.2.2.2.1 hbo.2.1 (fun q hq => hlo.2.2.2 q hq) hlo.1 hB1 hB2 hB4 (fun τ x2 u1 u2 => ?_)
        refine nxt (b.1, rfold b.2.1 l.2, b.2.2.1, b.2.2.2) τ _ _ (aS.trans u1.f) (rS.row u1 u2) (u1.tk kS) ?_ (hbo.row (rfold_ok hbo.2.1 (fun q hq => hlo.2.2.2 q hq)) (by rw [hxe, List.length_append]; omega)) rfl rfl hst'
        show gI τ 84 b.2.2.1.length = 1
        rw [u1.2.2.2.2.1 84 _ (by omega) (by omega)]
        exact s84
      · exact nI_pos' (by have := (List.getElem?_eq_some_iff.mp hkx).1; rw [List.length_reverse] at this; omega)
  · have hst' : (tok t a).1 ≠ 4 → stp (b, m, 0, 0, 0, 0) (tok t a) = .inl 2 := fun z => by
      rw [hst z]
      unfold stItem
      rw [cite_neg c2, cite_neg c1]
    refine sp_fails (d := d + 2) (c := 2) hk hko hB.2.2.1.1 (fun τ ff => ⟨b01, hf τ _ _ ff ?_ ?_⟩)
    · split <;> omega
    · by_cases z : (tok t a).1 = 4
      · rw [if_pos z]
        exact prP_l ha (cite_pos z)
      · rw [if_neg z]
        exact prP_l ha (hst' z)
end RITEM
