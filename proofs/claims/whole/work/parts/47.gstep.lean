/-! ===== LAYER 3, E: strengths and one round on the grid ===== -/
def inv (b p : Nat) : Nat := ((List.range p).find? (fun t => decide (b * t % p = 1))).getD 0
theorem inv_eq {b p t : Nat} (ht : t < p) (h : b * t % p = 1) (hs : ∀ s, s < t → b * s % p ≠ 1) : inv b p = t := by
  unfold inv
  cases hf : (List.range p).find? (fun t => decide (b * t % p = 1)) with
  | none =>
    have := List.find?_eq_none.mp hf t (List.mem_range.mpr ht)
    exact absurd (decide_eq_true h) this
  | some j =>
    have hj := of_decide_eq_true (p := b * j % p = 1) (List.find?_some (p := fun t => decide (b * t % p = 1)) hf)
    show j = t
    rcases Nat.lt_trichotomy j t with q | q | q
    · exact absurd hj (hs j q)
    · exact q
    · exfalso
      rw [List.find?_range_eq_some] at hf
      have := hf.2.2 t q
      simp [h] at this
theorem inv_none {b p : Nat} (hs : ∀ s, s < p → b * s % p ≠ 1) : inv b p = 0 := by
  unfold inv
  rw [List.find?_eq_none.mpr (fun t ht => by simpa using hs t (List.mem_range.mp ht))]
  rfl
theorem inv_lt {b p : Nat} (hp : 0 < p) : inv b p < p := by
  unfold inv
  cases hf : (List.range p).find? (fun t => decide (b * t % p = 1)) with
  | none => exact hp
  | some j => exact List.mem_range.mp (List.mem_of_find?_eq_some hf)
def gwt (f : Int × Nat) (p : Nat) : Nat := fm f.1 p * inv (f.2 % p) p % p
theorem gwt_lt (f : Int × Nat) {p : Nat} (h : 0 < p) : gwt f p < p := Nat.mod_lt _ h
def gok (r : Rg) (p : Nat) : Prop := ∀ i, i < r.1 → (r.2.2 i).2 % p ≠ 0
def gst (k w p : Nat) (z : Nat × Nat) : Nat × Nat := if k = 0 then ((z.1 + w * z.2) % p, z.2) else if k = 1 then (z.1, fm ((z.2 : Int) - (w * z.1 : Nat)) p) else if k = 2 then (z.1, fm ((z.2 : Int) - (w * z.1 * z.1 : Nat)) p) else z
theorem gst_lt {k w p : Nat} {z : Nat × Nat} (hp : 0 < p) (h : z.1 < p ∧ z.2 < p) : (gst k w p z).1 < p ∧ (gst k w p z).2 < p := by
  unfold gst
  split
  · exact ⟨Nat.mod_lt _ hp, h.2⟩
  · split
    · exact ⟨h.1, fm_lt _ hp⟩
    · split
      · exact ⟨h.1, fm_lt _ hp⟩
      · exact h
def gfo (r : Rg) (p : Nat) : Nat → Nat × Nat → Nat × Nat
  | 0, z => z
  | n + 1, z => gst (r.2.1 n) (gwt (r.2.2 n) p) p (gfo r p n z)
theorem gfo_lt {r : Rg} {p : Nat} {z : Nat × Nat} (hp : 0 < p) (h : z.1 < p ∧ z.2 < p) : ∀ n, (gfo r p n z).1 < p ∧ (gfo r p n z).2 < p
  | 0 => h
  | n + 1 => gst_lt hp (gfo_lt hp h n)
def gnx (r : Rg) (p q : Nat) : Nat := (gfo r p r.1 (q / p, q % p)).1 * p + (gfo r p r.1 (q / p, q % p)).2
theorem pt_lt {x y p : Nat} (hx : x < p) (hy : y < p) : x * p + y < p * p := by
  have : (x + 1) * p ≤ p * p := Nat.mul_le_mul_right p hx
  rw [Nat.add_mul, Nat.one_mul] at this
  omega
theorem gnx_lt {r : Rg} {p q : Nat} (hp : 0 < p) (h : q < p * p) : gnx r p q < p * p := by
  have h1 : q / p < p := (Nat.div_lt_iff_lt_mul hp).mpr h
  have := gfo_lt (r := r) hp (z := (q / p, q % p)) ⟨h1, Nat.mod_lt _ hp⟩ r.1
  exact pt_lt this.1 this.2
/-- what the component's grid may change -/
def cg (σ τ : St) : Prop := sN τ = sN σ ∧ sS τ = sS σ ∧ gN τ = gN σ ∧ gR τ = gR σ ∧ gL τ = gL σ ∧ ∀ j k, j ≠ 68 → j ≠ 69 → j ≠ 70 → gI τ j k = gI σ j k
theorem cg.rf (σ : St) : cg σ σ := ⟨rfl, rfl, rfl, rfl, rfl, fun _ _ _ _ _ => rfl⟩
theorem cg.trans {σ τ υ : St} (h : cg σ τ) (g : cg τ υ) : cg σ υ := ⟨g.1.trans h.1, g.2.1.trans h.2.1, g.2.2.1.trans h.2.2.1, g.2.2.2.1.trans h.2.2.2.1, g.2.2.2.2.1.trans h.2.2.2.2.1, fun j k a b c => (g.2.2.2.2.2 j k a b c).trans (h.2.2.2.2.2 j k a b c)⟩
theorem cg_pI {σ : St} {j : Nat} (k : Nat) (v : Int32) (h : j = 68 ∨ j = 69 ∨ j = 70) : cg σ (pI σ j k v) := ⟨rfl, rfl, rfl, rfl, rfl, fun a b h1 h2 h3 => by rw [gI_pI, if_neg (by omega)]⟩
theorem cg.RC {σ τ : St} (h : cg σ τ) {r : Rg} (hr : RC σ r) : RC τ r := by
  obtain ⟨h1, h2, h3, h4⟩ := hr
  have eR := h.2.2.2.1
  refine ⟨(h.2.2.2.2.2 11 1 (by omega) (by omega) (by omega)).trans h1, by rw [eR]; exact h2, by rw [eR, h.2.2.1]; exact h3, fun i hi => ?_⟩
  obtain ⟨a1, a2, a3, a4⟩ := h4 i hi
  rw [eR]
  refine ⟨a1, (h.2.2.2.2.2 _ 0 (by omega) (by omega) (by omega)).trans a2, a3, ?_⟩
  unfold isF
  rw [h.2.2.2.2.1]
  exact a4
/-- what the reference's grid may change -/
def rg (σ τ : St) : Prop := sN τ = sN σ ∧ sS τ = sS σ ∧ gN τ = gN σ ∧ gR τ = gR σ ∧ gL τ = gL σ ∧ ∀ j k, j ≠ 93 → j ≠ 94 → ¬ (j = 71 ∧ 44 ≤ k) → gI τ j k = gI σ j k
theorem rg.rf (σ : St) : rg σ σ := ⟨rfl, rfl, rfl, rfl, rfl, fun _ _ _ _ _ => rfl⟩
theorem rg.trans {σ τ υ : St} (h : rg σ τ) (g : rg τ υ) : rg σ υ := ⟨g.1.trans h.1, g.2.1.trans h.2.1, g.2.2.1.trans h.2.2.1, g.2.2.2.1.trans h.2.2.2.1, g.2.2.2.2.1.trans h.2.2.2.2.1, fun j k a b c => (g.2.2.2.2.2 j k a b c).trans (h.2.2.2.2.2 j k a b c)⟩
theorem rg_pI {σ : St} {j k : Nat} (v : Int32) (h : j = 93 ∨ j = 94 ∨ j = 71 ∧ 44 ≤ k) : rg σ (pI σ j k v) := ⟨rfl, rfl, rfl, rfl, rfl, fun a b h1 h2 h3 => by rw [gI_pI, if_neg (by omega)]⟩
theorem rg.R {σ τ : St} (h : rg σ τ) {r : Rg} (hr : RR σ r) : RR τ r := by
  refine ⟨(h.2.2.2.2.2 71 29 (by omega) (by omega) (by omega)).trans hr.1, fun i hi => ?_⟩
  obtain ⟨a1, a2, a3⟩ := hr.2 i hi
  rw [h.2.2.2.2.1]
  exact ⟨(h.2.2.2.2.2 85 i (by omega) (by omega) (by omega)).trans a1, a2, a3⟩
/-- the strengths that stand -/
def wC (σ : St) (r : Rg) (p n : Nat) : Prop := ∀ i, i < n → gI σ 69 i = nI (gwt (r.2.2 i) p)
def wR (σ : St) (r : Rg) (p n : Nat) : Prop := ∀ i, i < n → gI σ 93 i = nI (gwt (r.2.2 i) p)
section GSTEP
variable {d : Nat}
theorem sp_inverse_loop {σ : St} {Q : Option AV → St → Prop} {b p : Nat} (hb : b < p) (hp : p ≤ 31) (h : Q (some (aI (nI (inv b p)))) σ) : ∀ (m t : Nat), t + m = p → (∀ s, s < t → b * s % p ≠ 1) → Wp lay1 rtOf (Cl lay1 d) k_La_inverse 1 Q (2, [aI (nI b), aI (nI p), aI (nI t)], [], σ) := by
  intro m
  induction m with
  | zero =>
    intro t ht hs
    refine bk_La_inverse_2 _ _ _ ⟨fun _ => ?_, fun c => absurd ((nI_leI (by omega) (by omega)).mpr (by omega)) c⟩
    rw [inv_none (fun s hs' => hs s (by omega))] at h
    exact h
  | succ m ih =>
    intro t ht hs
    have hm : b * t ≤ 31 * 31 := Nat.mul_le_mul (by omega) (by omega)
    have hlt := Nat.mod_lt (b * t) (show 0 < p by omega)
    refine bk_La_inverse_2 _ _ _ ⟨fun c => absurd ((nI_leI (by omega) (by omega)).mp c) (by omega), fun _ => ⟨nI_ne0 (by omega) (by omega), fun c => ?_, fun c => ?_⟩⟩
    · rw [pk_mul, pk_rem (by omega) (by omega) (by omega), show (1 : Int32) = nI 1 from rfl, nI_eq (by omega) (by omega)] at c
      rw [inv_eq (by omega) c hs] at h
      exact h
    · rw [pk_mul, pk_rem (by omega) (by omega) (by omega), show (1 : Int32) = nI 1 from rfl, nI_eq (by omega) (by omega)] at c
      rw [nI_1]
      refine ih (t + 1) (by omega) (fun s hs' => ?_)
      by_cases e : s = t
      · rw [e]; exact c
      · exact hs s (by omega)
theorem sp_inverse {σ : St} {Q : Option AV → St → Prop} {b p : Nat} (hb : b < p) (h2 : 2 ≤ p) (hp : p ≤ 31) (h : Q (some (aI (nI (inv b p)))) σ) : Cl lay1 (d + 1) M_La_inverse [aI (nI b), aI (nI p)] σ Q := by
  refine bk_La_inverse_0 _ _ ?_
  refine sp_inverse_loop hb hp h (p - 1) 1 (by omega) (fun s hs => ?_)
  rw [show s = 0 by omega, Nat.mul_zero, Nat.zero_mod]
  omega
theorem inv_ne {b p : Nat} (hp : p ∈ prmL) (hb : b < p) (h0 : b ≠ 0) : inv b p ≠ 0 ∧ b * inv b p % p = 1 ∧ ∀ s, s < inv b p → b * s % p ≠ 1 := by
  obtain ⟨t, ht, e⟩ := prm_inv p hp b hb h0
  have h3 := prm_b hp
  unfold inv
  cases hf : (List.range p).find? (fun t => decide (b * t % p = 1)) with
  | none =>
    have := List.find?_eq_none.mp hf t (List.mem_range.mpr ht)
    exact absurd (decide_eq_true e) this
  | some j =>
    have hj := of_decide_eq_true (p := b * j % p = 1) (List.find?_some (p := fun t => decide (b * t % p = 1)) hf)
    show j ≠ 0 ∧ b * j % p = 1 ∧ _
    refine ⟨fun z => ?_, hj, fun s hs z => ?_⟩
    · rw [z, Nat.mul_zero, Nat.zero_mod] at hj; omega
    · rw [List.find?_range_eq_some] at hf
      have := hf.2.2 s hs
      simp [z] at this
theorem inv_0 {p : Nat} (hp : 2 ≤ p) : inv 0 p = 0 := inv_none (fun s _ => by rw [Nat.zero_mul, Nat.zero_mod]; omega)
/-- the component's strengths -/
theorem sp_prepare_loop {r : Rg} {p : Nat} (hro : rgOK r) (hp : p ∈ prmL) : ∀ (m k : Nat) (u4 u5 : AV) (σ : St) (Q : Option AV → St → Prop), k + m = r.1 → LN σ → RC σ r → wC σ r p k → (∀ i, i < k → (r.2.2 i).2 % p ≠ 0) → (∀ τ, cg σ τ → (∀ j, gI τ 68 j = gI σ 68 j) → gok r p → wC τ r p r.1 → Q (some (aI 1)) τ) → (∀ τ, cg σ τ → (∀ j, gI τ 68 j = gI σ 68 j) → ¬ gok r p → Q (some (aI 0)) τ) → Wp lay1 rtOf (Cl lay1 (d + 1)) k_La_prepare 2 Q (14, [aO 1 68, aO 8 11, aI (nI p), aI (nI k), u4, u5], [], σ) := by
  have h80 := hro.1
  have h3 := prm_b hp
  intro m
  induction m with
  | zero =>
    intro k u4 u5 σ Q hk hln hr hw hg hy hn
    refine bk_La_prepare_14 _ _ _ _ ⟨fun _ => ⟨b11, hy σ (cg.rf _) (fun _ => rfl) (fun i hi => hg i (by omega)) (fun i hi => hw i (by omega))⟩, fun c => absurd ?_ c⟩
    rw [hr.1]
    exact (nI_leI (by omega) (by omega)).mpr (by omega)
  | succ m ih =>
    intro k u4 u5 σ Q hk hln hr hw hg hy hn
    have hlt : k < r.1 := by omega
    obtain ⟨g1, g2, g3, g4⟩ := id hr
    obtain ⟨p1, p2, p3, p4⟩ := g4 k hlt
    obtain ⟨-, hfo⟩ := hro.2 k hlt
    obtain ⟨g, hge⟩ : ∃ q, gR σ (gR σ (gR σ 11 0) k) 1 = q + 1 := ⟨gR σ (gR σ (gR σ 11 0) k) 1 - 1, by omega⟩
    rw [hge] at p4
    have f1 := hfo.1
    have f2 := hfo.2.2
    have hml := Nat.mod_lt (r.2.2 k).2 (show 0 < p by omega)
    refine bk_La_prepare_14 _ _ _ _ ⟨fun c => absurd c ?_, fun _ => ?_⟩
    · rw [hr.1, nI_leI (by omega) (by omega)]; omega
    rw [ix_nI (by omega), ldR_hi σ 1 p1, hge]
    refine nn_of g2 ⟨by rw [g3]; exact inb_nI hlt (by omega), nn_of (by omega) (nn_of (by omega) ?_)⟩
    refine bk_Fr_side_0 _ _ ⟨fun z => absurd z (by decide), fun _ => ?_⟩
    rw [p4.2, L64_I32, ← nI_I32]
    refine ⟨nI_ne0 (by omega) (by omega), ?_⟩
    rw [pk_rem (by omega) (by omega) (by omega)]
    refine sp_inverse hml (by omega) (by omega) ⟨fun c => ⟨b01, ?_⟩, fun c => nn_of (by omega) ?_⟩
    · refine hn σ (cg.rf _) (fun _ => rfl) (fun gg => ?_)
      have := (inv_ne hp hml (gg k hlt)).1
      rw [show (0 : Int32) = nI 0 from rfl, nI_eq (by have := inv_lt (b := (r.2.2 k).2 % p) (show 0 < p by omega); omega) (by omega)] at c
      exact this c
    have il := inv_lt (b := (r.2.2 k).2 % p) (show 0 < p by omega)
    have hne : (r.2.2 k).2 % p ≠ 0 := fun z => by
      rw [z, inv_0 (by omega)] at c
      exact c rfl
    refine bk_Fr_side_0 _ _ ⟨fun _ => ?_, fun z => absurd rfl z⟩
    rw [p4.1, L64_I32]
    refine sp_floorMod (by omega) (by omega) (by omega) (by omega) ?_
    have fl := fm_lt (r.2.2 k).1 (show 0 < p by omega)
    have hmm : fm (r.2.2 k).1 p * inv ((r.2.2 k).2 % p) p ≤ 31 * 31 := Nat.mul_le_mul (by omega) (by omega)
    refine ⟨nI_ne0 (by omega) (by omega), by rw [hln.at 69 80 (by decide)]; exact inb_nI (by omega) (by omega), ?_⟩
    rw [nI_1, pk_mul, pk_rem (by omega) (by omega) (by omega)]
    have a := cg_pI (σ := σ) (j := 69) k (nI (gwt (r.2.2 k) p)) (by omega)
    refine ih (k + 1) _ _ (pI σ 69 k (nI (gwt (r.2.2 k) p))) Q (by omega) (hln.of rfl) (a.RC hr) (fun i hi => ?_) (fun i hi => ?_) (fun τ b1 b2 b3 b4 => hy τ (a.trans b1) (fun j => (b2 j).trans (by rw [gI_pI, if_neg (by omega)])) b3 b4) (fun τ b1 b2 b3 => hn τ (a.trans b1) (fun j => (b2 j).trans (by rw [gI_pI, if_neg (by omega)])) b3)
    · rw [gI_pI]
      by_cases e : i = k
      · rw [if_pos ⟨rfl, e⟩, e]
      · rw [if_neg (by omega)]; exact hw i (by omega)
    · by_cases e : i = k
      · rw [e]; exact hne
      · exact hg i (by omega)
theorem sp_prepare {σ : St} {Q : Option AV → St → Prop} {r : Rg} {p : Nat} (hro : rgOK r) (hp : p ∈ prmL) (hln : LN σ) (hr : RC σ r) (hy : ∀ τ, cg σ τ → (∀ j, j ≠ 0 → gI τ 68 j = gI σ 68 j) → gI τ 68 0 = nI p → gok r p → wC τ r p r.1 → Q (some (aI 1)) τ) (hn : ∀ τ, cg σ τ → (∀ j, j ≠ 0 → gI τ 68 j = gI σ 68 j) → ¬ gok r p → Q (some (aI 0)) τ) : Cl lay1 (d + 2) M_La_prepare [aO 1 68, aO 8 11, aI (nI p)] σ Q := by
  have h3 := prm_b hp
  refine bk_La_prepare_0 _ ⟨fun _ => ?_, fun c => absurd ?_ c⟩
  · have a := cg_pI (σ := σ) (j := 68) 0 (nI p) (by omega)
    refine sp_prepare_loop hro hp r.1 0 _ _ (pI σ 68 0 (nI p)) Q (by omega) (hln.of rfl) (a.RC hr) (fun i hi => absurd hi (by omega)) (fun i hi => absurd hi (by omega)) (fun τ b1 b2 b3 b4 => hy τ (a.trans b1) (fun j hj => (b2 j).trans (by rw [gI_pI, if_neg (by omega)])) ((b2 0).trans (by rw [gI_pI, if_pos ⟨rfl, rfl⟩])) b3 b4) (fun τ b1 b2 b3 => hn τ (a.trans b1) (fun j hj => (b2 j).trans (by rw [gI_pI, if_neg (by omega)])) b3)
  · rw [show (2 : Int32) = nI 2 from rfl, nI_leI (by omega) (by omega)]; omega
/-- the reference's strengths -/
theorem sp_weighs_find {p b k : Nat} {σ : St} {Q : Option AV → St → Prop} (hp : p ∈ prmL) (hb : b < p) (h0 : b ≠ 0) (h : Wp lay1 rtOf (Cl lay1 (d + 1)) k_R_weighs 2 Q (30, [aO 12 71, aI (nI p), aI (nI k), aI (nI b), aI (nI (inv b p))], [], σ)) : ∀ (m t : Nat), t + m = inv b p → Wp lay1 rtOf (Cl lay1 (d + 1)) k_R_weighs 2 Q (30, [aO 12 71, aI (nI p), aI (nI k), aI (nI b), aI (nI t)], [], σ) := by
  have h3 := prm_b hp
  obtain ⟨i1, i2, i3⟩ := inv_ne hp hb h0
  have il := inv_lt (b := b) (show 0 < p by omega)
  intro m
  induction m with
  | zero => intro t ht; rw [show t = inv b p by omega]; exact h
  | succ m ih =>
    intro t ht
    have hm : t * b ≤ 31 * 31 := Nat.mul_le_mul (by omega) (by omega)
    have hlt := Nat.mod_lt (t * b) (show 0 < p by omega)
    refine bk_R_weighs_30 _ _ _ _ ⟨nI_ne0 (by omega) (by omega), fun c => ?_, fun c => ?_⟩
    · rw [pk_mul, pk_rem (by omega) (by omega) (by omega), show (1 : Int32) = nI 1 from rfl, nI_eq (by omega) (by omega), Nat.mul_comm] at c
      exact absurd c (i3 t (by omega))
    · rw [nI_1]
      exact ih (t + 1) (by omega)
theorem sp_weighs_loop {r : Rg} {p : Nat} (hro : rgOK r) (hp : p ∈ prmL) : ∀ (m k : Nat) (u3 u4 : AV) (σ : St) (Q : Option AV → St → Prop), k + m = r.1 → LN σ → RR σ r → wR σ r p k → (∀ i, i < k → (r.2.2 i).2 % p ≠ 0) → (∀ τ, rg σ τ → (∀ j, gI τ 71 j = gI σ 71 j) → gok r p → wR τ r p r.1 → Q (some (aI 1)) τ) → (∀ τ, rg σ τ → (∀ j, gI τ 71 j = gI σ 71 j) → ¬ gok r p → Q (some (aI 0)) τ) → Wp lay1 rtOf (Cl lay1 (d + 1)) k_R_weighs 2 Q (2, [aO 12 71, aI (nI p), aI (nI k), u3, u4], [], σ) := by
  have h80 := hro.1
  have h3 := prm_b hp
  intro m
  induction m with
  | zero =>
    intro k u3 u4 σ Q hk hln hr hw hg hy hn
    refine bk_R_weighs_2 _ _ _ _ ⟨fun _ => ⟨b11, hy σ (rg.rf _) (fun _ => rfl) (fun i hi => hg i (by omega)) (fun i hi => hw i (by omega))⟩, fun c => absurd ?_ c⟩
    rw [hr.1]
    exact (nI_leI (by omega) (by omega)).mpr (by omega)
  | succ m ih =>
    intro k u3 u4 σ Q hk hln hr hw hg hy hn
    have hlt : k < r.1 := by omega
    obtain ⟨k1, k2, k3⟩ := hr.2 k hlt
    obtain ⟨-, hfo⟩ := hro.2 k hlt
    have f1 := hfo.1
    have f2 := hfo.2.2
    have hml := Nat.mod_lt (r.2.2 k).2 (show 0 < p by omega)
    refine bk_R_weighs_2 _ _ _ _ ⟨fun c => absurd c ?_, fun _ => ⟨by rw [hln.at 87 80 (by decide)]; exact inb_nI (by omega) (by omega), ?_⟩⟩
    · rw [hr.1, nI_leI (by omega) (by omega)]; omega
    rw [ix_nI (by omega), k3]
    refine sp_by (by omega) (by omega) (by omega) (by omega) ?_
    rw [fm_nat]
    refine ⟨fun c => ⟨b01, ?_⟩, fun c => ?_⟩
    · rw [show (0 : Int32) = nI 0 from rfl, nI_eq (by omega) (by omega)] at c
      exact hn σ (rg.rf _) (fun _ => rfl) (fun gg => gg k hlt c)
    rw [show (0 : Int32) = nI 0 from rfl, nI_eq (by omega) (by omega)] at c
    obtain ⟨i1, i2, i3⟩ := inv_ne hp hml c
    have il := inv_lt (b := (r.2.2 k).2 % p) (show 0 < p by omega)
    refine sp_weighs_find hp hml c ?_ (inv ((r.2.2 k).2 % p) p - 1) 1 (by omega)
    have hm : inv ((r.2.2 k).2 % p) p * ((r.2.2 k).2 % p) ≤ 31 * 31 := Nat.mul_le_mul (by omega) (by omega)
    refine bk_R_weighs_30 _ _ _ _ ⟨nI_ne0 (by omega) (by omega), fun _ => ⟨by rw [hln.at 86 80 (by decide)]; exact inb_nI (by omega) (by omega), ?_⟩, fun c => absurd ?_ c⟩
    · rw [ix_nI (by omega), k2]
      refine sp_by (by omega) (by omega) (by omega) (by omega) ?_
      have fl := fm_lt (r.2.2 k).1 (show 0 < p by omega)
      have hmm : fm (r.2.2 k).1 p * inv ((r.2.2 k).2 % p) p ≤ 31 * 31 := Nat.mul_le_mul (by omega) (by omega)
      refine ⟨nI_ne0 (by omega) (by omega), by rw [hln.at 93 80 (by decide)]; exact inb_nI (by omega) (by omega), ?_⟩
      rw [nI_1, pk_mul, pk_rem (by omega) (by omega) (by omega)]
      have a := rg_pI (σ := σ) (j := 93) (k := k) (nI (gwt (r.2.2 k) p)) (by omega)
      refine ih (k + 1) _ _ (pI σ 93 k (nI (gwt (r.2.2 k) p))) Q (by omega) (hln.of rfl) (a.R hr) (fun i hi => ?_) (fun i hi => ?_) (fun τ b1 b2 b3 b4 => hy τ (a.trans b1) (fun j => (b2 j).trans (by rw [gI_pI, if_neg (by omega)])) b3 b4) (fun τ b1 b2 b3 => hn τ (a.trans b1) (fun j => (b2 j).trans (by rw [gI_pI, if_neg (by omega)])) b3)
      · rw [gI_pI]
        by_cases e : i = k
        · rw [if_pos ⟨rfl, e⟩, e]
        · rw [if_neg (by omega)]; exact hw i (by omega)
      · by_cases e : i = k
        · rw [e]; exact c
        · exact hg i (by omega)
    · rw [pk_mul, pk_rem (by omega) (by omega) (by omega), Nat.mul_comm, i2]
      rfl
theorem sp_weighs {σ : St} {Q : Option AV → St → Prop} {r : Rg} {p : Nat} (hro : rgOK r) (hp : p ∈ prmL) (hln : LN σ) (hr : RR σ r) (hy : ∀ τ, rg σ τ → (∀ j, gI τ 71 j = gI σ 71 j) → gok r p → wR τ r p r.1 → Q (some (aI 1)) τ) (hn : ∀ τ, rg σ τ → (∀ j, gI τ 71 j = gI σ 71 j) → ¬ gok r p → Q (some (aI 0)) τ) : Cl lay1 (d + 2) M_R_weighs [aO 12 71, aI (nI p)] σ Q :=
  bk_R_weighs_0 _ (sp_weighs_loop hro hp r.1 0 _ _ σ Q (by omega) hln hr (fun i hi => absurd hi (by omega)) (fun i hi => absurd hi (by omega)) hy hn)
end GSTEP
