/-! ===== LAYER 3, F: the reference's reading: figures ===== -/
def opR (σ : St) (o : List (Nat × Nat)) : Prop := gI σ 71 23 = nI o.length ∧ ∀ i q, o.reverse[i]? = some q → gI σ 83 (i + 1) = nI q.1 ∧ gI σ 82 (i + 1) = nI q.2
def riB (σ : St) (t : Tx) (b : Ba) : Prop := LN σ ∧ txR σ t ∧ (gI σ 71 6 = 0 ∧ gI σ 71 7 = -4) ∧ linesR σ b.1 ∧ rowR σ b.2.1 ∧ opR σ b.2.2.1
/-- what the reading of figures changes -/
def fG (σ τ : St) : Prop := sN τ = sN σ ∧ sS τ = sS σ ∧ gN τ = gN σ ∧ gR τ = gR σ ∧ (∀ j k, ¬ (j = 71 ∧ 2 ≤ k ∧ k ≤ 4) → gI τ j k = gI σ j k) ∧ ∀ j k, j ≠ 71 → gL τ j k = gL σ j k
theorem fG.rf (σ : St) : fG σ σ := ⟨rfl, rfl, rfl, rfl, fun _ _ _ => rfl, fun _ _ _ => rfl⟩
theorem fG.trans {σ τ υ : St} (h : fG σ τ) (g : fG τ υ) : fG σ υ := ⟨g.1.trans h.1, g.2.1.trans h.2.1, g.2.2.1.trans h.2.2.1, g.2.2.2.1.trans h.2.2.2.1, fun j k q => (g.2.2.2.2.1 j k q).trans (h.2.2.2.2.1 j k q), fun j k q => (g.2.2.2.2.2 j k q).trans (h.2.2.2.2.2 j k q)⟩
theorem rc.g {σ τ : St} (h : rc σ τ) : fG σ τ := ⟨h.1, h.2.1, h.2.2.1, h.2.2.2.1, h.2.2.2.2.1, fun j k q => h.2.2.2.2.2 j k (by omega)⟩
theorem fG_pL {σ : St} (k : Nat) (v : Int64) : fG σ (pL σ 71 k v) := ⟨rfl, rfl, rfl, rfl, fun _ _ _ => rfl, fun a b q => by rw [gL_pL, if_neg (by omega)]⟩
theorem fG.f {σ τ : St} (h : fG σ τ) : fR σ τ := ⟨h.1, h.2.1, h.2.2.1, h.2.2.2.1, fun j k a _ _ _ => h.2.2.2.2.1 j k (by omega), fun j k a _ _ _ _ _ => h.2.2.2.2.2 j k a⟩
theorem fG.ri {σ τ : St} (h : fG σ τ) {t : Tx} {b : Ba} (hr : riB σ t b) : riB τ t b := by
  obtain ⟨h1, h2, h3, h4, h5, h6⟩ := hr
  have eI := h.2.2.2.2.1
  have eL := h.2.2.2.2.2
  exact ⟨h1.of h.2.2.1, ⟨(eI 71 1 (by omega)).trans h2.1, fun i hi => (eI 72 i (by omega)).trans (h2.2 i hi)⟩, ⟨(eI 71 6 (by omega)).trans h3.1, (eI 71 7 (by omega)).trans h3.2⟩, h4.of (eI 71 8 (by omega)) (eI 71 12 (by omega)) (fun k => eL 73 k (by omega)) (fun k => eI 74 k (by omega)) (fun k => eI 75 k (by omega)) (fun k => eI 76 k (by omega)) (fun k => eL 77 k (by omega)) (fun k => eL 78 k (by omega)), h5.of (fun k _ _ => eI 71 k (by omega)) (fun k => eI 79 k (by omega)) (fun k => eL 80 k (by omega)) (fun k => eL 81 k (by omega)), ⟨(eI 71 23 (by omega)).trans h6.1, fun i q hq => ⟨(eI 83 _ (by omega)).trans (h6.2 i q hq).1, (eI 82 _ (by omega)).trans (h6.2 i q hq).2⟩⟩⟩
theorem prP_congr {t : Tx} {a : Nat} {p q : Ps} (h : a ≤ t.1) (e : stp p (tok t a) = stp q (tok t a)) : prP t a p = prP t a q := by
  unfold prP
  rw [show t.1 + 1 - a = (t.1 - a) + 1 by omega, prF_eq, prF_eq, e]
theorem stp_6 {b : Ba} {kd : Nat} {sg ab : Int} {tm : Nat} {k : Tk} (h : ¬ isS k 47) : stp (b, 6, kd, sg, ab, tm) k = stp (endP b kd ab 1, 3, 0, 0, 0, 0) k := by
  by_cases c : k.1 = 4
  · exact (cite_pos c).trans (cite_pos c).symm
  · have e1 : stp (b, 6, kd, sg, ab, tm) k = cite (isS k 47) (.inr (b, 7, kd, 0, ab, 0)) (stIC (endP b kd ab 1) k) := cite_neg c
    have e2 : stp (endP b kd ab 1, 3, 0, 0, 0, 0) k = stIC (endP b kd ab 1) k := cite_neg c
    rw [e1, e2, cite_neg h]
def figP (d : Nat) (Q : Option AV → St → Prop) (x1 : Int32) (s : Int64) (σ : St) : Prop := ((gI σ 71 4) = (2 : Int32) → Cl lay1 d M_R_next [aO 12 71] (pL (pL σ 71 27 (s * (gL σ 71 5))) 71 28 (1 : Int64)) (rV fun σ4 => (x1 = 0 → ((1 : Int32) = 0 ∨ (1 : Int32) = 1) ∧ Q (some (aI (1 : Int32))) σ4) ∧ (¬ x1 = 0 → Cl lay1 d M_R_isSign [aO 12 71, aI (47 : Int32)] σ4 (rI fun r6 σ5 => (r6 = 0 → ((1 : Int32) = 0 ∨ (1 : Int32) = 1) ∧ Q (some (aI (1 : Int32))) σ5) ∧ (¬ r6 = 0 → Cl lay1 d M_R_next [aO 12 71] σ5 (rV fun σ7 => ((gI σ7 71 4) = (2 : Int32) → ((lg_cmp (gL σ7 71 5) (0 : Int64)) = 0 → Cl lay1 d M_R_fails [aO 12 71, aI (2 : Int32)] σ7 (rI fun r9 σ8 => (r9 = 0 ∨ r9 = 1) ∧ Q (some (aI r9)) σ8)) ∧ (¬ (lg_cmp (gL σ7 71 5) (0 : Int64)) = 0 → Cl lay1 d M_R_next [aO 12 71] (pL σ7 71 28 (gL σ7 71 5)) (rV fun σ10 => ((1 : Int32) = 0 ∨ (1 : Int32) = 1) ∧ Q (some (aI (1 : Int32))) σ10))) ∧ (¬ (gI σ7 71 4) = (2 : Int32) → Cl lay1 d M_R_fails [aO 12 71, aI (2 : Int32)] σ7 (rI fun r12 σ11 => (r12 = 0 ∨ r12 = 1) ∧ Q (some (aI r12)) σ11)))))))) ∧ (¬ (gI σ 71 4) = (2 : Int32) → Cl lay1 d M_R_fails [aO 12 71, aI (2 : Int32)] σ (rI fun r14 σ13 => (r14 = 0 ∨ r14 = 1) ∧ Q (some (aI r14)) σ13))
section RFIG
variable {d : Nat}
/-- a number, with what may follow it, behind its sign -/
theorem sp_figP {σ : St} {Q : Option AV → St → Prop} {t : Tx} {b : Ba} {a kd : Nat} {sg : Int} {p : Ps} {x1 : Int32} (hto : txOK t) (ha : a ≤ t.1) (hr : riB σ t b) (hk : tkR σ (tok t a)) (hkd : kd ≤ 2) (hsg : sg = 1 ∨ sg = -1) (hx : x1 = if kd = 2 then 0 else 1) (hp : stp p (tok t a) = if (tok t a).1 = 4 then .inl 1 else stAb b kd sg (tok t a)) (hs : ∀ τ a' up dn, fG σ τ → riB τ t b → tkR τ (tok t a') → a' ≤ t.1 → a < a' → gL τ 71 27 = L64 up → gL τ 71 28 = L64 (dn : Nat) → up.natAbs ≤ 9999 → (1 ≤ dn ∧ dn ≤ 9999) ∧ (kd = 2 → dn = 1) → prP t a p = prP t a' (endP b kd up dn, 3, 0, 0, 0, 0) → Q (some (aI 1)) τ) (hf : ∀ τ c pl, flP σ c pl τ → 1 ≤ c ∧ c ≤ 4 → prP t a p = .inl (c, pl) → Q (some (aI 0)) τ) : figP (d + 2) Q x1 (L64 sg) σ := by
  have hko := tok_ok hto ha
  have hpos := tok_pos ha
  unfold figP
  have e2 : gI σ 71 4 = 2 ↔ (tok t a).1 = 2 := by
    have := hko.1
    rw [hk.1, show (2 : Int32) = nI 2 from rfl, nI_eq (by omega) (by omega)]
  rw [e2]
  refine ⟨fun c2 => ?_, fun c2 => ?_⟩
  · have hv := hko.2.2.1 c2
    rw [if_neg (by omega)] at hp
    unfold stAb at hp
    rw [cite_pos c2] at hp
    have hup : (sg * ((tok t a).2.1 : Int)).natAbs ≤ 9999 := by
      rcases hsg with q | q <;> rw [q] <;> omega
    rw [hk.2.2.2.2.1 c2, L64_mul]
    have a1 : fG σ (pL (pL σ 71 27 (L64 (sg * ((tok t a).2.1 : Nat)))) 71 28 1) := (fG_pL _ _).trans (fG_pL _ _)
    have u27 : gL (pL (pL σ 71 27 (L64 (sg * ((tok t a).2.1 : Nat)))) 71 28 1) 71 27 = L64 (sg * ((tok t a).2.1 : Nat)) := by rw [gL_pL, if_neg (by omega), gL_pL, if_pos ⟨rfl, rfl⟩]
    have u28 : gL (pL (pL σ 71 27 (L64 (sg * ((tok t a).2.1 : Nat)))) 71 28 1) 71 28 = L64 ((1 : Nat) : Int) := by rw [gL_pL, if_pos ⟨rfl, rfl⟩]; rfl
    have n2 : gI (pL (pL σ 71 27 (L64 (sg * ((tok t a).2.1 : Nat)))) 71 28 1) 71 2 = nI (tok t a).2.2.2.2 := hk.2.2.1
    generalize pL (pL σ 71 27 (L64 (sg * ((tok t a).2.1 : Nat)))) 71 28 1 = σ1 at a1 u27 u28 n2
    have r1 := a1.ri hr
    have hlt := hpos.2.2.2.1 (by omega)
    refine sp_rnext (d := d) r1.1 r1.2.1 hto hpos.1 n2 (fun σ2 b2 k2 => ?_)
    have a2 := a1.trans b2.g
    have r2 := a2.ri hr
    have v27 : gL σ2 71 27 = L64 (sg * ((tok t a).2.1 : Nat)) := (b2.2.2.2.2.2 71 27 (by omega)).trans u27
    have v28 : gL σ2 71 28 = L64 ((1 : Nat) : Int) := (b2.2.2.2.2.2 71 28 (by omega)).trans u28
    have hko2 := tok_ok hto hpos.1
    have hpos2 := tok_pos hpos.1
    by_cases ckd : kd = 2
    · rw [cite_pos ckd] at hp
      rw [if_pos ckd] at hx
      refine ⟨fun _ => ⟨b11, ?_⟩, fun z => absurd hx z⟩
      refine hs σ2 _ _ 1 a2 r2 k2 hpos.1 hlt v27 v28 hup ⟨by omega, fun _ => rfl⟩ ?_
      rw [prP_s ha hp (by omega), ckd]
    · rw [cite_neg ckd] at hp
      rw [if_neg ckd] at hx
      refine ⟨fun z => absurd z (by rw [hx]; decide), fun _ => ?_⟩
      have es := prP_s ha hp (by omega)
      refine sp_isSign (d := d + 1) (c := 47) k2 hko2 (by omega) (fun c47 => ⟨fun z => absurd z (by decide), fun _ => ?_⟩) (fun c47 => ⟨fun _ => ⟨b11, ?_⟩, fun z => absurd rfl z⟩)
      · have c3 := c47.1
        have st7 : stp (b, 6, kd, 0, sg * ((tok t a).2.1 : Nat), 0) (tok t (tok t a).2.2.2.2) = .inr (b, 7, kd, 0, sg * ((tok t a).2.1 : Nat), 0) := by
          have e1 : stp (b, 6, kd, 0, sg * ((tok t a).2.1 : Nat), 0) (tok t (tok t a).2.2.2.2) = cite (isS (tok t (tok t a).2.2.2.2) 47) (.inr (b, 7, kd, 0, sg * ((tok t a).2.1 : Nat), 0)) (stIC (endP b kd (sg * ((tok t a).2.1 : Nat)) 1) (tok t (tok t a).2.2.2.2)) := cite_neg (by omega)
          rw [e1, cite_pos c47]
        have es2 := prP_s hpos.1 st7 (by omega)
        have hlt2 := hpos2.2.2.2.1 (by omega)
        refine sp_rnext (d := d) r2.1 r2.2.1 hto hpos2.1 k2.2.2.1 (fun σ3 b3 k3 => ?_)
        have a3 := a2.trans b3.g
        have r3 := a3.ri hr
        have w27 : gL σ3 71 27 = L64 (sg * ((tok t a).2.1 : Nat)) := (b3.2.2.2.2.2 71 27 (by omega)).trans v27
        have hko3 := tok_ok hto hpos2.1
        have hpos3 := tok_pos hpos2.1
        generalize hA : (tok t (tok t a).2.2.2.2).2.2.2.2 = A at es2 hlt2 k3 hko3 hpos3 hpos2
        have hA1 : A ≤ t.1 := hpos2.1
        have e22 : gI σ3 71 4 = 2 ↔ (tok t A).1 = 2 := by
          have := hko3.1
          rw [k3.1, show (2 : Int32) = nI 2 from rfl, nI_eq (by omega) (by omega)]
        have e7 : (tok t A).1 ≠ 4 → stp (b, 7, kd, 0, sg * ((tok t a).2.1 : Nat), 0) (tok t A) = cite ((tok t A).1 = 2 ∧ (tok t A).2.1 ≠ 0) (.inr (endP b kd (sg * ((tok t a).2.1 : Nat)) (tok t A).2.1, 3, 0, 0, 0, 0)) (.inl 2) := fun z => cite_neg z
        show (gI σ3 71 4 = 2 → _) ∧ (¬ gI σ3 71 4 = 2 → _)
        rw [e22]
        have bad : ¬ ((tok t A).1 = 2 ∧ (tok t A).2.1 ≠ 0) → Cl lay1 (d + 2) M_R_fails [aO 12 71, aI (2 : Int32)] σ3 (rI fun r12 σ11 => (r12 = 0 ∨ r12 = 1) ∧ Q (some (aI r12)) σ11) := by
          intro nn
          refine sp_fails (d := d + 1) (c := 2) k3 hko3 r3.2.2.1.1 (fun τ ff => ⟨b01, hf τ _ _ ⟨a3.f.trans ff.1, ff.2⟩ ?_ ?_⟩)
          · split <;> omega
          · rw [es, es2]
            by_cases z : (tok t A).1 = 4
            · rw [if_pos z]
              exact prP_l hA1 (cite_pos z)
            · rw [if_neg z]
              exact prP_l hA1 (by rw [e7 z, cite_neg nn])
        refine ⟨fun z2 => ?_, fun z2 => bad (fun y => z2 y.1)⟩
        have hv3 := hko3.2.2.1 z2
        rw [k3.2.2.2.2.1 z2, L64_0, cmpL_eq (by omega) (by omega) (by omega) (by omega)]
        refine ⟨fun z0 => bad (fun y => y.2 (by omega)), fun z0 => ?_⟩
        have z1 : (tok t A).2.1 ≠ 0 := fun y => z0 (by omega)
        have st3 : stp (b, 7, kd, 0, sg * ((tok t a).2.1 : Nat), 0) (tok t A) = .inr (endP b kd (sg * ((tok t a).2.1 : Nat)) (tok t A).2.1, 3, 0, 0, 0, 0) := by rw [e7 (by omega), cite_pos ⟨z2, z1⟩]
        have es3 := prP_s hA1 st3 (by omega)
        have a4 : fG σ (pL σ3 71 28 (L64 ((tok t A).2.1 : Nat))) := a3.trans (fG_pL _ _)
        have x27 : gL (pL σ3 71 28 (L64 ((tok t A).2.1 : Nat))) 71 27 = L64 (sg * ((tok t a).2.1 : Nat)) := by rw [gL_pL, if_neg (by omega)]; exact w27
        have x28 : gL (pL σ3 71 28 (L64 ((tok t A).2.1 : Nat))) 71 28 = L64 ((tok t A).2.1 : Nat) := by rw [gL_pL, if_pos ⟨rfl, rfl⟩]
        have n4 : gI (pL σ3 71 28 (L64 ((tok t A).2.1 : Nat))) 71 2 = nI (tok t A).2.2.2.2 := k3.2.2.1
        generalize pL σ3 71 28 (L64 ((tok t A).2.1 : Nat)) = σ4 at a4 x27 x28 n4
        have r4 := a4.ri hr
        have hlt3 := hpos3.2.2.2.1 (by omega)
        refine sp_rnext (d := d) r4.1 r4.2.1 hto hpos3.1 n4 (fun σ5 b5 k5 => ⟨b11, ?_⟩)
        have a5 := a4.trans b5.g
        exact hs σ5 _ _ _ a5 (a5.ri hr) k5 hpos3.1 (by omega) ((b5.2.2.2.2.2 71 27 (by omega)).trans x27) ((b5.2.2.2.2.2 71 28 (by omega)).trans x28) hup ⟨by omega, fun z => absurd z ckd⟩ (by rw [es, es2, es3])
      · refine hs σ2 _ _ 1 a2 r2 k2 hpos.1 hlt v27 v28 hup ⟨by omega, fun _ => rfl⟩ ?_
        rw [es]
        exact prP_congr hpos.1 (stp_6 c47)
  · refine sp_fails (d := d + 1) (c := 2) hk hko hr.2.2.1.1 (fun τ ff => ⟨b01, hf τ _ _ ff ?_ ?_⟩)
    · split <;> omega
    · by_cases z : (tok t a).1 = 4
      · rw [if_pos z] at hp ⊢
        exact prP_l ha hp
      · rw [if_neg z] at hp ⊢
        refine prP_l ha (hp.trans ?_)
        unfold stAb
        exact cite_neg c2
theorem sp_figure {σ : St} {Q : Option AV → St → Prop} {t : Tx} {b : Ba} {a kd : Nat} {x1 : Int32} (hto : txOK t) (ha : a ≤ t.1) (hr : riB σ t b) (h2 : gI σ 71 2 = nI a) (hkd : kd ≤ 2) (hx : x1 = if kd = 2 then 0 else 1) (hs : ∀ τ a' up dn, fG σ τ → riB τ t b → tkR τ (tok t a') → a' ≤ t.1 → a < a' → gL τ 71 27 = L64 up → gL τ 71 28 = L64 (dn : Nat) → up.natAbs ≤ 9999 → (1 ≤ dn ∧ dn ≤ 9999) ∧ (kd = 2 → dn = 1) → prP t a (b, 4, kd, 1, 0, 0) = prP t a' (endP b kd up dn, 3, 0, 0, 0, 0) → Q (some (aI 1)) τ) (hf : ∀ τ c pl, flP σ c pl τ → 1 ≤ c ∧ c ≤ 4 → prP t a (b, 4, kd, 1, 0, 0) = .inl (c, pl) → Q (some (aI 0)) τ) : Cl lay1 (d + 3) M_R_figure [aO 12 71, aI x1] σ Q := by
  have hko := tok_ok hto ha
  have hpos := tok_pos ha
  refine bk_R_figure_0 _ ?_
  refine sp_rnext (d := d) hr.1 hr.2.1 hto ha h2 (fun σ1 b1 k1 => ?_)
  have r1 := b1.g.ri hr
  have e4 : (tok t a).1 ≠ 4 → stp (b, 4, kd, 1, 0, 0) (tok t a) = cite (isS (tok t a) 45) (.inr (b, 5, kd, -1, 0, 0)) (stAb b kd 1 (tok t a)) := fun z => cite_neg z
  refine sp_isSign (d := d + 1) (c := 45) k1 hko (by omega) (fun c45 => ⟨fun z => absurd z (by decide), fun _ => ?_⟩) (fun c45 => ⟨fun _ => ?_, fun z => absurd rfl z⟩)
  · have c3 := c45.1
    have st5 : stp (b, 4, kd, 1, 0, 0) (tok t a) = .inr (b, 5, kd, -1, 0, 0) := by rw [e4 (by omega), cite_pos c45]
    have es := prP_s ha st5 (by omega)
    have hlt := hpos.2.2.2.1 (by omega)
    refine sp_rnext (d := d) r1.1 r1.2.1 hto hpos.1 k1.2.2.1 (fun σ2 b2 k2 => ?_)
    have a2 := b1.g.trans b2.g
    refine sp_figP (sg := -1) (p := (b, 5, kd, -1, 0, 0)) hto hpos.1 (a2.ri hr) k2 hkd (Or.inr rfl) hx ?_ (fun τ a' up dn c1 c2 c3 c4 c5 c6 c7 c8 c9 c10 => hs τ a' up dn (a2.trans c1) c2 c3 c4 (by omega) c6 c7 c8 c9 (es.trans c10)) (fun τ c pl c1 c2 c3 => hf τ c pl ⟨a2.f.trans c1.1, c1.2⟩ c2 (es.trans c3))
    by_cases z : (tok t (tok t a).2.2.2.2).1 = 4
    · rw [if_pos z]; exact cite_pos z
    · rw [if_neg z]; exact cite_neg z
  · refine sp_figP (sg := 1) (p := (b, 4, kd, 1, 0, 0)) hto ha r1 k1 hkd (Or.inl rfl) hx ?_ (fun τ a' up dn c1 c2 c3 c4 c5 c6 c7 c8 c9 c10 => hs τ a' up dn (b1.g.trans c1) c2 c3 c4 c5 c6 c7 c8 c9 c10) (fun τ c pl c1 c2 c3 => hf τ c pl ⟨b1.f.trans c1.1, c1.2⟩ c2 c3)
    by_cases z : (tok t a).1 = 4
    · rw [if_pos z]; exact cite_pos z
    · rw [if_neg z, e4 z, cite_neg c45]
end RFIG
