/-! ===== LAYER 3, E: grid(), after(), rows(), the reference ===== -/
def rlI (σ : St) (r : Rg) (p : Nat) : Prop := LN σ ∧ RR σ r ∧ wR σ r p r.1
theorem rlI.of {σ τ : St} {r : Rg} {p : Nat} (h : rlI σ r p) (a : rg σ τ) (e : ∀ k, gI τ 93 k = gI σ 93 k) : rlI τ r p := ⟨h.1.of a.2.2.1, a.R h.2.1, fun i hi => (e i).trans (h.2.2 i hi)⟩
def gR4 (σ : St) (g : Nat × Nat × Nat × Nat) : Prop := gI σ 71 45 = nI g.1 ∧ gI σ 71 46 = nI g.2.2.1 ∧ (g.2.2.1 ≠ 0 → gI σ 71 47 = nI g.2.2.2)
section RGRID
variable {d : Nat}
theorem sp_rfollow {r : Rg} {p N : Nat} (hro : rgOK r) (hp : 0 < p ∧ p ≤ 31) (hN : N = p * p) : ∀ (f : Nat) (S : Nat → Bool) (q n : Nat) (x2 x3 : Int32) (σ : St) (Q : Option AV → St → Prop), cnt S N ≤ f → q < N → rlI σ r p → sC 94 σ S N → (∀ τ q', rg σ τ → (∀ j, j ≠ 94 → ∀ k, gI τ j k = gI σ j k) → sC 94 τ (fol (gnx r p) f S q n).1 N → q' < N → (fol (gnx r p) f S q n).1 q' = true → Wp lay1 rtOf (Cl lay1 (d + 2)) k_R_grid 1 Q (90, [aO 12 71, aI (nI p), aI x2, aI x3, aI (nI (fol (gnx r p) f S q n).2), aI (nI q')], [], τ)) → Wp lay1 rtOf (Cl lay1 (d + 2)) k_R_grid 1 Q (90, [aO 12 71, aI (nI p), aI x2, aI x3, aI (nI n), aI (nI q)], [], σ) := by
  have hpp : N ≤ 31 * 31 := by rw [hN]; exact Nat.mul_le_mul hp.2 hp.2
  intro f
  induction f with
  | zero =>
    intro S q n x2 x3 σ Q hc hq hI hs h
    have hS : S q = true := by
      cases e : S q with
      | true => rfl
      | false => have := cnt_ups e hq; omega
    exact h σ q (rg.rf _) (fun _ _ _ => rfl) hs hq hS
  | succ f ih =>
    intro S q n x2 x3 σ Q hc hq hI hs h
    have b94 : inb (nI q) (gN σ 94) := by rw [hI.1.at 94 961 (by decide)]; exact inb_nI (by omega) (by omega)
    cases hS : S q with
    | true =>
      have e : fol (gnx r p) (f + 1) S q n = (S, n) := by unfold fol; rw [if_pos hS]
      rw [e] at h
      exact h σ q (rg.rf _) (fun _ _ _ => rfl) hs hq hS
    | false =>
      have hcu := cnt_ups hS hq
      have e : fol (gnx r p) (f + 1) S q n = fol (gnx r p) f (ups S q) (gnx r p q) (n + 1) := by
        show (if S q then _ else _) = _
        rw [if_neg (by rw [hS]; decide)]
      rw [e] at h
      refine bk_R_grid_90 _ _ _ _ _ ⟨b94, fun _ => ⟨b94, ?_⟩, fun c => absurd ?_ c⟩
      · rw [ix_nI (by omega)]
        have a := rg_pI (σ := σ) (j := 94) (k := q) 1 (by omega)
        have eo : ∀ j, j ≠ 94 → ∀ k, gI (pI σ 94 q 1) j k = gI σ j k := fun j hj k => by rw [gI_pI, if_neg (by omega)]
        have hI1 : rlI (pI σ 94 q 1) r p := hI.of a (eo 93 (by omega))
        show Cl lay1 (d + 2) M_R_rounds [aO 12 71, aI (nI p), aI (nI q)] (pI σ 94 q 1) _
        refine sp_rounds hro hp hI1.1 hI1.2.1 hI1.2.2 (by rw [← hN]; exact hq) ?_
        show Wp lay1 rtOf (Cl lay1 (d + 2)) k_R_grid 1 Q (90, [aO 12 71, aI (nI p), aI x2, aI x3, aI (nI n + 1), aI (nI (gnx r p q))], [], pI σ 94 q 1)
        rw [nI_1]
        exact ih (ups S q) (gnx r p q) (n + 1) x2 x3 _ Q (by omega) (by rw [hN]; exact gnx_lt hp.1 (by rw [← hN]; exact hq)) hI1 (sC_ups hs) (fun τ q' b1 b2 b3 b4 b5 => h τ q' (a.trans b1) (fun j hj k => (b2 j hj k).trans (eo j hj k)) b3 b4 b5)
      · rw [ix_nI (by omega), sC_t hs hq]
        exact hS
theorem sp_rall_loop {r : Rg} {p N : Nat} (hro : rgOK r) (hp : 0 < p ∧ p ≤ 31) (hN : N = p * p) : ∀ (m k : Nat) (u4 u5 : AV) (σ : St) (Q : Option AV → St → Prop), k + m = N → rlI σ r p → sC 94 σ (grun (gnx r p) N k).1 N → gR4 σ (grun (gnx r p) N k).2 → (∀ τ, rg σ τ → gI τ 71 44 = gI σ 71 44 → gR4 τ (grun (gnx r p) N N).2 → Q (some (aI (nI (grun (gnx r p) N N).2.2.1))) τ) → Wp lay1 rtOf (Cl lay1 (d + 2)) k_R_grid 1 Q (68, [aO 12 71, aI (nI p), aI (nI (grun (gnx r p) N k).2.2.1), aI (nI k), u4, u5], [], σ) := by
  have hpp : N ≤ 31 * 31 := by rw [hN]; exact Nat.mul_le_mul hp.2 hp.2
  have hnx : ∀ q, q < N → gnx r p q < N := fun q hq => by rw [hN] at hq ⊢; exact gnx_lt hp.1 hq
  have hpN : nI p * nI p = nI N := by rw [pk_mul, hN]
  intro m
  induction m with
  | zero =>
    intro k u4 u5 σ Q hk hI hs hg h
    have e : k = N := by omega
    subst e
    refine bk_R_grid_68 _ _ _ _ _ ⟨fun _ => h σ (rg.rf _) rfl hg, fun c => absurd ?_ c⟩
    rw [hpN]
    exact (nI_leI (by omega) (by omega)).mpr (by omega)
  | succ m ih =>
    intro k u4 u5 σ Q hk hI hs hg h
    have hlt : k < N := by omega
    have hcl := cnt_le (grun (gnx r p) N k).1 N
    refine bk_R_grid_68 _ _ _ _ _ ⟨fun c => absurd c ?_, fun _ => ⟨by rw [hI.1.at 94 961 (by decide)]; exact inb_nI (by omega) (by omega), fun c => ?_, fun c => ?_⟩⟩
    · rw [hpN, nI_leI (by omega) (by omega)]; omega
    · rw [ix_nI (by omega), sC_t hs hlt] at c
      have eg := grun_f c
      refine sp_rfollow hro hp hN N (grun (gnx r p) N k).1 k 0 _ _ σ Q (by omega) hlt hI hs (fun τ q' a b s hq' hS' => ?_)
      have fl := fol_le hnx N (grun (gnx r p) N k).1 k 0 hlt (by omega)
      have gl := grun_le hnx k (by omega)
      have hgt : gR4 τ (grun (gnx r p) N k).2 := ⟨(b 71 (by omega) 45).trans hg.1, (b 71 (by omega) 46).trans hg.2.1, fun z => (b 71 (by omega) 47).trans (hg.2.2 z)⟩
      have ihk := ih (k + 1)
      rw [eg] at ihk
      generalize hF : fol (gnx r p) N (grun (gnx r p) N k).1 k 0 = F at fl s hS' ihk
      generalize hGk : grun (gnx r p) N k = Gk at gl hgt ihk
      obtain ⟨t1, t2, t3⟩ := hgt
      have e1 : nI F.2 = (1 : Int32) ↔ F.2 = 1 := by rw [show (1 : Int32) = nI 1 from rfl, nI_eq (by omega) (by omega)]
      have e7 : gI (pI τ 71 45 (gI τ 71 45 + 1)) 71 46 = nI Gk.2.2.2.1 := by rw [gI_pI, if_neg (by omega)]; exact t2
      have e8 : nI F.2 ≤ nI Gk.2.2.2.1 ↔ F.2 ≤ Gk.2.2.2.1 := nI_leI (by omega) (by omega)
      have fin : ∀ (x2 : Int32) (τ1 : St), x2 = nI (gnote k F.2 Gk.2).2.1 → rg τ τ1 → (∀ j, j ≠ 71 → ∀ i, gI τ1 j i = gI τ j i) → gI τ1 71 44 = gI τ 71 44 → gR4 τ1 (gnote k F.2 Gk.2) → ∀ u4 u5, Wp lay1 rtOf (Cl lay1 (d + 2)) k_R_grid 1 Q (68, [aO 12 71, aI (nI p), aI x2, aI (nI k + 1), u4, u5], [], τ1) := by
        intro x2 τ1 hx a1 b1 b44 g1 u4 u5
        rw [hx, nI_1]
        have aa := a.trans a1
        refine ihk u4 u5 τ1 Q (by omega) (hI.of aa (fun j => (b1 93 (by omega) j).trans (b 93 (by omega) j))) (fun i hi => (b1 94 (by omega) i).trans (s i hi)) g1 (fun ω q1 q2 q3 => h ω (aa.trans q1) (q2.trans (b44.trans (b 71 (by omega) 44))) q3)
      refine bk_R_grid_90 _ _ _ _ _ ⟨by rw [hI.1.of a.2.2.1 |>.at 94 961 (by decide)]; exact inb_nI (by omega) (by omega), fun z => ?_, fun _ => ⟨fun c1 => ⟨fun c2 => ?_, fun c2 => ?_⟩, fun c1 => ⟨fun c2 => ?_, fun c2 => ?_⟩⟩⟩
      · rw [ix_nI (by omega), sC_t s hq', hS'] at z
        cases z
      · rw [e7, e8] at c2
        rw [e1] at c1
        refine fin _ _ ?_ (rg_pI _ (by omega)) (fun j hj i => by rw [gI_pI, if_neg (by omega)]) (by rw [gI_pI, if_neg (by omega)]) ?_ _ _
        · show nI Gk.2.2.1 + 1 = nI (if F.2 = 1 then Gk.2.2.1 + 1 else Gk.2.2.1)
          rw [if_pos c1, nI_1]
        · unfold gR4 gnote
          rw [if_neg (show ¬ Gk.2.2.2.1 < F.2 by omega), if_neg (show ¬ Gk.2.2.2.1 < F.2 by omega)]
          exact ⟨by rw [gI_pI, if_pos ⟨rfl, rfl⟩, t1, nI_1], e7, fun z => by rw [gI_pI, if_neg (by omega)]; exact t3 z⟩
      · rw [e7, e8] at c2
        rw [e1] at c1
        refine fin _ _ ?_ (((rg_pI _ (by omega)).trans (rg_pI _ (by omega))).trans (rg_pI _ (by omega))) (fun j hj i => by rw [gI_pI, if_neg (by omega), gI_pI, if_neg (by omega), gI_pI, if_neg (by omega)]) (by rw [gI_pI, if_neg (by omega), gI_pI, if_neg (by omega), gI_pI, if_neg (by omega)]) ?_ _ _
        · show nI Gk.2.2.1 + 1 = nI (if F.2 = 1 then Gk.2.2.1 + 1 else Gk.2.2.1)
          rw [if_pos c1, nI_1]
        · unfold gR4 gnote
          rw [if_pos (show Gk.2.2.2.1 < F.2 by omega), if_pos (show Gk.2.2.2.1 < F.2 by omega)]
          exact ⟨by rw [gI_pI, if_neg (by omega), gI_pI, if_neg (by omega), gI_pI, if_pos ⟨rfl, rfl⟩, t1, nI_1], by rw [gI_pI, if_neg (by omega), gI_pI, if_pos ⟨rfl, rfl⟩], fun z => by rw [gI_pI, if_pos ⟨rfl, rfl⟩]⟩
      · rw [e7, e8] at c2
        rw [e1] at c1
        refine fin _ _ ?_ (rg_pI _ (by omega)) (fun j hj i => by rw [gI_pI, if_neg (by omega)]) (by rw [gI_pI, if_neg (by omega)]) ?_ _ _
        · show nI Gk.2.2.1 + 0 = nI (if F.2 = 1 then Gk.2.2.1 + 1 else Gk.2.2.1)
          rw [if_neg c1, Int32.add_zero]
        · unfold gR4 gnote
          rw [if_neg (show ¬ Gk.2.2.2.1 < F.2 by omega), if_neg (show ¬ Gk.2.2.2.1 < F.2 by omega)]
          exact ⟨by rw [gI_pI, if_pos ⟨rfl, rfl⟩, t1, nI_1], e7, fun z => by rw [gI_pI, if_neg (by omega)]; exact t3 z⟩
      · rw [e7, e8] at c2
        rw [e1] at c1
        refine fin _ _ ?_ (((rg_pI _ (by omega)).trans (rg_pI _ (by omega))).trans (rg_pI _ (by omega))) (fun j hj i => by rw [gI_pI, if_neg (by omega), gI_pI, if_neg (by omega), gI_pI, if_neg (by omega)]) (by rw [gI_pI, if_neg (by omega), gI_pI, if_neg (by omega), gI_pI, if_neg (by omega)]) ?_ _ _
        · show nI Gk.2.2.1 + 0 = nI (if F.2 = 1 then Gk.2.2.1 + 1 else Gk.2.2.1)
          rw [if_neg c1, Int32.add_zero]
        · unfold gR4 gnote
          rw [if_pos (show Gk.2.2.2.1 < F.2 by omega), if_pos (show Gk.2.2.2.1 < F.2 by omega)]
          exact ⟨by rw [gI_pI, if_neg (by omega), gI_pI, if_neg (by omega), gI_pI, if_pos ⟨rfl, rfl⟩, t1, nI_1], by rw [gI_pI, if_neg (by omega), gI_pI, if_pos ⟨rfl, rfl⟩], fun z => by rw [gI_pI, if_pos ⟨rfl, rfl⟩]⟩
    · rw [ix_nI (by omega), sC_t hs hlt] at c
      have c' : (grun (gnx r p) N k).1 k = true := by
        cases e : (grun (gnx r p) N k).1 k with
        | true => rfl
        | false => exact absurd e c
      have eg := grun_t c'
      rw [nI_1]
      have ihk := ih (k + 1)
      rw [eg] at ihk
      exact ihk _ _ σ Q (by omega) hI hs hg h
theorem sp_rclear_loop {p N : Nat} (hN : N ≤ 961) (hpN : nI p * nI p = nI N) : ∀ (m k : Nat) (u3 u4 u5 : AV) (σ : St) (Q : Option AV → St → Prop), k + m = N → LN σ → sC 94 σ (fun _ => false) k → (∀ τ, rg σ τ → (∀ j, j ≠ 94 → ∀ k, gI τ j k = gI σ j k) → sC 94 τ (fun _ => false) N → Wp lay1 rtOf (Cl lay1 (d + 2)) k_R_grid 1 Q (68, [aO 12 71, aI (nI p), aI 0, aI 0, u4, u5], [], τ)) → Wp lay1 rtOf (Cl lay1 (d + 2)) k_R_grid 1 Q (44, [aO 12 71, aI (nI p), aI (nI k), u3, u4, u5], [], σ) := by
  intro m
  induction m with
  | zero =>
    intro k u3 u4 u5 σ Q hk hln hs h
    refine bk_R_grid_44 _ _ _ _ _ ⟨fun _ => h σ (rg.rf _) (fun _ _ _ => rfl) (fun i hi => hs i (by omega)), fun c => absurd ?_ c⟩
    rw [hpN]
    exact (nI_leI (by omega) (by omega)).mpr (by omega)
  | succ m ih =>
    intro k u3 u4 u5 σ Q hk hln hs h
    refine bk_R_grid_44 _ _ _ _ _ ⟨fun c => absurd c ?_, fun _ => ⟨by rw [hln.at 94 961 (by decide)]; exact inb_nI (by omega) (by omega), ?_⟩⟩
    · rw [hpN, nI_leI (by omega) (by omega)]; omega
    rw [ix_nI (by omega), nI_1]
    have a := rg_pI (σ := σ) (j := 94) (k := k) 0 (by omega)
    show Wp lay1 rtOf (Cl lay1 (d + 2)) k_R_grid 1 Q (44, [aO 12 71, aI (nI p), aI (nI (k + 1)), u3, u4, u5], [], pI σ 94 k 0)
    refine ih (k + 1) _ _ _ _ Q (by omega) (hln.of rfl) (fun i hi => ?_) (fun τ b1 b2 b3 => h τ (a.trans b1) (fun j hj i => (b2 j hj i).trans (by rw [gI_pI, if_neg (by omega)])) b3)
    rw [gI_pI]
    by_cases e : i = k
    · rw [if_pos ⟨rfl, e⟩]; rfl
    · rw [if_neg (by omega)]; exact hs i (by omega)
theorem sp_R_grid {σ : St} {Q : Option AV → St → Prop} {r : Rg} {G : Gd} {x : Int32} (hln : LN σ) (hr : RR σ r) (hro : rgOK r) (hG : gDR σ G) (h : ∀ τ, rg σ τ → gDR τ (spGrid r G x).2 → Q (some (aI (spGrid r G x).1)) τ) : Cl lay1 (d + 7) M_R_grid [aO 12 71, aI x] σ Q := by
  have h80 := hro.1
  have bad : ¬ (isP x ∧ r.1 ≠ 0) → Q (some (aI (-1))) σ := fun c => by
    have e : spGrid r G x = (-1, G) := cite_neg c
    have := h σ (rg.rf _) (by rw [e]; exact hG)
    rw [e] at this
    exact this
  have z29 : gI σ 71 29 = 0 ↔ r.1 = 0 := by rw [hr.1, show (0 : Int32) = nI 0 from rfl, nI_eq (by omega) (by omega)]
  refine bk_R_grid_0 _ ?_
  refine sp_R_isPrime (d := d + 4) (fun c => ⟨fun z => absurd z (by decide), fun _ => ⟨fun z => bad (fun y => y.2 (z29.mp z)), fun z => ?_⟩⟩) (fun c => ⟨fun _ => bad (fun z => c z.1), fun z => absurd rfl z⟩)
  rw [z29] at z
  obtain ⟨hp, e, h3, h31⟩ := isP_nI c
  have es : spGrid r G x = _ := cite_pos ⟨c, z⟩
  rw [e]
  generalize x.toInt.toNat = p at hp es
  have hb := prm_b hp
  have hpp : p * p ≤ 31 * 31 := Nat.mul_le_mul hb.2 hb.2
  refine sp_weighs (d := d + 4) hro hp hln hr (fun τ a b0 b2 b3 => ⟨fun z => absurd z (by decide), fun _ => ?_⟩) (fun τ a b0 b2 => ⟨fun _ => ?_, fun z => absurd rfl z⟩)
  · have es2 := es.trans (cite_pos b2)
    have a1 : rg τ (pI (pI (pI τ 71 44 (nI p)) 71 45 0) 71 46 0) := ((rg_pI _ (by omega)).trans (rg_pI _ (by omega))).trans (rg_pI _ (by omega))
    have f44 : gI (pI (pI (pI τ 71 44 (nI p)) 71 45 0) 71 46 0) 71 44 = nI p := by rw [gI_pI, if_neg (by omega), gI_pI, if_neg (by omega), gI_pI, if_pos ⟨rfl, rfl⟩]
    have f45 : gI (pI (pI (pI τ 71 44 (nI p)) 71 45 0) 71 46 0) 71 45 = 0 := by rw [gI_pI, if_neg (by omega), gI_pI, if_pos ⟨rfl, rfl⟩]
    have f46 : gI (pI (pI (pI τ 71 44 (nI p)) 71 45 0) 71 46 0) 71 46 = 0 := by rw [gI_pI, if_pos ⟨rfl, rfl⟩]
    have eo : ∀ k, gI (pI (pI (pI τ 71 44 (nI p)) 71 45 0) 71 46 0) 93 k = gI τ 93 k := fun k => by rw [gI_pI, if_neg (by omega), gI_pI, if_neg (by omega), gI_pI, if_neg (by omega)]
    show Wp lay1 rtOf (Cl lay1 (d + 6)) k_R_grid 1 Q (44, [aO 12 71, aI (nI p), aI (nI 0), aZ, aZ, aZ], [], pI (pI (pI τ 71 44 (nI p)) 71 45 0) 71 46 0)
    generalize pI (pI (pI τ 71 44 (nI p)) 71 45 0) 71 46 0 = τ1 at a1 f44 f45 f46 eo
    have aa := a.trans a1
    have ln1 := hln.of aa.2.2.1
    refine sp_rclear_loop (d := d + 4) (N := p * p) (by omega) (pk_mul p p) (p * p) 0 _ _ _ τ1 Q (by omega) ln1 (fun i hi => absurd hi (by omega)) (fun τ2 q1 q2 q3 => ?_)
    have hI2 : rlI τ2 r p := ⟨ln1.of q1.2.2.1, q1.R (aa.R hr), fun i hi => (q2 93 (by omega) i).trans ((eo i).trans (b3 i hi))⟩
    refine sp_rall_loop (d := d + 4) hro (by omega) rfl (p * p) 0 _ _ τ2 Q (by omega) hI2 q3 ⟨(q2 71 (by omega) 45).trans f45, (q2 71 (by omega) 46).trans f46, fun z => absurd rfl z⟩ (fun τ3 s1 s2 s3 => ?_)
    have hpos : 1 ≤ (grun (gnx r p) (p * p) (p * p)).2.2.2.1 := by
      have h0 : 0 < p * p := Nat.mul_pos (by omega) (by omega)
      obtain ⟨M, hM⟩ : ∃ M, p * p = M + 1 := ⟨p * p - 1, by omega⟩
      have := grun_pos (nx := gnx r p) h0 M
      rw [← hM] at this
      exact this
    have := h τ3 ((aa.trans q1).trans s1) (by
      rw [es2]
      exact ⟨hb, s2.trans ((q2 71 (by omega) 44).trans f44), s3.1, s3.2.1, s3.2.2 (by omega)⟩)
    rw [es2] at this
    exact this
  · have es2 := es.trans (cite_neg b2)
    have := h τ a (by rw [es2]; exact hG.of (fun j _ => b0 j))
    rw [es2] at this
    exact this
theorem sp_R_after_loop {r : Rg} {p q n : Nat} (hro : rgOK r) (hp : 0 < p ∧ p ≤ 31) (hq : q < p * p) (hn : n ≤ 1000) {σ : St} {Q : Option AV → St → Prop} (hI : rlI σ r p) (h : Q (some (aI (nI (git r p n q)))) σ) : ∀ (m k : Nat) (u2 u3 : AV), k + m = n → Wp lay1 rtOf (Cl lay1 (d + 2)) k_R_after 1 Q (76, [aO 12 71, aI (nI p), u2, u3, aI (nI n), aI (nI (git r p k q)), aI (nI k)], [], σ) := by
  intro m
  induction m with
  | zero =>
    intro k u2 u3 hk
    have e : k = n := by omega
    subst e
    exact bk_R_after_76 _ _ _ _ _ _ ⟨fun _ => h, fun c => absurd ((nI_leI (by omega) (by omega)).mpr (by omega)) c⟩
  | succ m ih =>
    intro k u2 u3 hk
    refine bk_R_after_76 _ _ _ _ _ _ ⟨fun c => absurd ((nI_leI (by omega) (by omega)).mp c) (by omega), fun _ => ?_⟩
    refine sp_rounds hro hp hI.1 hI.2.1 hI.2.2 (git_lt hp.1 hq k) ?_
    show Wp lay1 rtOf (Cl lay1 (d + 2)) k_R_after 1 Q (76, [aO 12 71, aI (nI p), u2, u3, aI (nI n), aI (nI (gnx r p (git r p k q))), aI (nI k + 1)], [], σ)
    rw [nI_1]
    exact ih (k + 1) u2 u3 (by omega)
theorem sp_R_after {σ : St} {Q : Option AV → St → Prop} {r : Rg} {p x y n : Int32} (hln : LN σ) (hr : RR σ r) (hro : rgOK r) (h : ∀ τ, rg σ τ → (∀ j, gI τ 71 j = gI σ 71 j) → Q (some (aI (spAfter r p x y n))) τ) : Cl lay1 (d + 7) M_R_after [aO 12 71, aI p, aI x, aI y, aI n] σ Q := by
  have h80 := hro.1
  have bad : ¬ (isP p ∧ r.1 ≠ 0 ∧ (0 ≤ x.toInt ∧ x.toInt < p.toInt) ∧ (0 ≤ y.toInt ∧ y.toInt < p.toInt) ∧ (0 ≤ n.toInt ∧ n.toInt ≤ 1000)) → Q (some (aI (-1))) σ := fun c => by
    have e : spAfter r p x y n = -1 := cite_neg c
    have := h σ (rg.rf _) (fun _ => rfl)
    rw [e] at this
    exact this
  have z29 : gI σ 71 29 = 0 ↔ r.1 = 0 := by rw [hr.1, show (0 : Int32) = nI 0 from rfl, nI_eq (by omega) (by omega)]
  refine bk_R_after_0 _ _ _ _ ?_
  refine sp_R_isPrime (d := d + 4) (fun c => ⟨fun z => absurd z (by decide), fun _ => ⟨fun z => bad (fun y => y.2.1 (z29.mp z)), fun z0 => ?_⟩⟩) (fun c => ⟨fun _ => bad (fun z => c z.1), fun z => absurd rfl z⟩)
  rw [z29] at z0
  obtain ⟨hp, e, h3, h31⟩ := isP_nI c
  have e4 : p.toInt.toNat ≤ 80 := by omega
  have x1 := Int32.toInt_lt n
  have x2 := Int32.le_toInt n
  refine sp_inI (d := d + 5) e e4 (fun c1 => ⟨fun z => absurd z (by decide), fun _ => ?_⟩) (fun c1 => ⟨fun _ => bad (by omega), fun z => absurd rfl z⟩)
  refine sp_inI (d := d + 5) e e4 (fun c2 => ⟨fun z => absurd z (by decide), fun _ => ?_⟩) (fun c2 => ⟨fun _ => bad (by omega), fun z => absurd rfl z⟩)
  rw [i64_self n, L64_0, show (1000 : Int64) = L64 1000 by decide]
  refine sp_in (d := d + 5) (by omega) (by omega) (by omega) (by omega) (by omega) (by omega) (fun c3 => ⟨fun z => absurd z (by decide), fun _ => ?_⟩) (fun c3 => ⟨fun _ => bad (by omega), fun z => absurd rfl z⟩)
  have es : spAfter r p x y n = _ := cite_pos ⟨c, z0, by omega, by omega, by omega⟩
  have ex := nI_self (x := x) (by omega)
  have ey := nI_self (x := y) (by omega)
  have en := nI_self (x := n) (by omega)
  have hxp : x.toInt.toNat < p.toInt.toNat := by omega
  have hyp : y.toInt.toNat < p.toInt.toNat := by omega
  have hn : n.toInt.toNat ≤ 1000 := by omega
  rw [e, ex, ey, en]
  generalize p.toInt.toNat = P at hp es hxp hyp
  generalize x.toInt.toNat = X at es hxp
  generalize y.toInt.toNat = Y at es hyp
  generalize n.toInt.toNat = N at es hn
  have hb := prm_b hp
  refine sp_weighs (d := d + 4) hro hp hln hr (fun τ a b0 b2 b3 => ⟨fun z => absurd z (by decide), fun _ => ?_⟩) (fun τ a b0 b2 => ⟨fun _ => ?_, fun z => absurd rfl z⟩)
  · have es2 := es.trans (cite_pos b2)
    have := h τ a b0
    rw [es2] at this
    show Wp lay1 rtOf (Cl lay1 (d + 6)) k_R_after 1 Q (76, [aO 12 71, aI (nI P), aI (nI X), aI (nI Y), aI (nI N), aI (nI X * nI P + nI Y), aI (nI 0)], [], τ)
    rw [pk_mul, nI_add]
    exact sp_R_after_loop (d := d + 4) (q := X * P + Y) hro (by omega) (pt_lt hxp hyp) hn ⟨hln.of a.2.2.1, a.R hr, b3⟩ this N 0 _ _ (by omega)
  · have es2 := es.trans (cite_neg b2)
    have := h τ a b0
    rw [es2] at this
    exact this
theorem sp_R_rows {σ : St} {Q : Option AV → St → Prop} {G : Gd} {w : Int32} (hG : gDR σ G) (h : Q (some (aI (spRows G w))) σ) : Cl lay1 (d + 2) M_R_rows [aO 12 71, aI w] σ Q := by
  have x1 := Int32.toInt_lt w
  have x2 := Int32.le_toInt w
  refine bk_R_rows_0 _ ?_
  rw [i64_self, L64_0, show (3 : Int64) = L64 3 by decide]
  refine sp_in (by omega) (by omega) (by omega) (by omega) (by omega) (by omega) (fun c => ⟨fun z => absurd z (by decide), fun _ => ?_⟩) (fun c => ⟨fun _ => ?_, fun z => absurd rfl z⟩)
  · cases G with
    | none =>
      rw [show spRows none w = -4 from if_pos c] at h
      exact ⟨fun _ => h, fun z => absurd hG z⟩
    | some g =>
      obtain ⟨gb, g4, g6, g7, g8⟩ := hG
      have es : spRows (some g) w = if w = 0 then nI g.1 else if w = 1 then nI g.2.1 else if w = 2 then nI g.2.2.1 else nI g.2.2.2 := if_pos c
      refine ⟨fun z => ?_, fun _ => ⟨fun q => ?_, fun q => ⟨fun q2 => ?_, fun q2 => ⟨fun q3 => ?_, fun q3 => ?_⟩⟩⟩⟩
      · rw [g4] at z
        exact absurd z (nI_ne0 (by omega) (by omega))
      · rw [g4]; rw [es.trans (if_pos q)] at h; exact h
      · rw [g6]; rw [es.trans ((if_neg q).trans (if_pos q2))] at h; exact h
      · rw [g7]; rw [es.trans (((if_neg q).trans (if_neg q2)).trans (if_pos q3))] at h; exact h
      · rw [g8]; rw [es.trans (((if_neg q).trans (if_neg q2)).trans (if_neg q3))] at h; exact h
  · rw [show spRows G w = -1 from if_neg (by omega)] at h
    exact h
end RGRID
