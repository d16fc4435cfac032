/-! ===== LAYER 3, E: one round, followed rows ===== -/
theorem fm_sq (y w x p : Nat) : fm ((y : Int) - (w * (x * x % p) : Nat)) p = fm ((y : Int) - (w * x * x : Nat)) p := by
  unfold fm
  congr 1
  have e : ((w * (x * x % p) : Nat) : Int) % p = ((w * x * x : Nat) : Int) % p := by
    rw [← Int.natCast_emod, ← Int.natCast_emod, Nat.mul_mod, Nat.mod_mod, ← Nat.mul_mod, Nat.mul_assoc]
  rw [Int.sub_emod, e, ← Int.sub_emod]
section GNEXT
variable {d : Nat} {σ : St} {Q : Option AV → St → Prop}
theorem y_sub (y m : Nat) : nI y - nI m = I32 ((y : Int) - (m : Nat)) := by rw [nI_I32, nI_I32, I32_sub]
theorem sp_next_loop {r : Rg} {p : Nat} {z : Nat × Nat} (hro : rgOK r) (hp : 0 < p ∧ p ≤ 31) (hln : LN σ) (hr : RC σ r) (h0 : gI σ 68 0 = nI p) (hw : wC σ r p r.1) (hz : z.1 < p ∧ z.2 < p) (h : Q (some (aI (nI ((gfo r p r.1 z).1 * p + (gfo r p r.1 z).2)))) σ) : ∀ (m k : Nat) (u2 : AV), k + m = r.1 → Wp lay1 rtOf (Cl lay1 (d + 1)) k_La_next 1 Q (18, [aO 1 68, aO 8 11, u2, aI (nI (gfo r p k z).1), aI (nI (gfo r p k z).2), aI (nI k)], [], σ) := by
  have h80 := hro.1
  intro m
  induction m with
  | zero =>
    intro k u2 hk
    refine bk_La_next_18 _ _ _ _ ⟨fun _ => ?_, fun c => absurd ?_ c⟩
    · rw [h0, pk_mul, nI_add, show k = r.1 by omega]
      exact h
    · rw [hr.1]
      exact (nI_leI (by omega) (by omega)).mpr (by omega)
  | succ m ih =>
    intro k u2 hk
    have hlt : k < r.1 := by omega
    obtain ⟨g1, g2, g3, g4⟩ := hr
    obtain ⟨p1, p2, -, -⟩ := g4 k hlt
    obtain ⟨hk4, -⟩ := hro.2 k hlt
    obtain ⟨q0, q1, -, q2, -⟩ := nIk hk4
    have hb := gfo_lt (r := r) hp.1 hz k
    have hwl := gwt_lt (r.2.2 k) hp.1
    have hw69 := hw k hlt
    have ih' := ih (k + 1)
    generalize hW : gwt (r.2.2 k) p = W at hwl hw69
    generalize hX : gfo r p k z = X at hb
    have estep : gfo r p (k + 1) z = gst (r.2.1 k) W p X := by rw [← hX, ← hW]; rfl
    rw [estep] at ih'
    have b69 : inb (nI k) (gN σ 69) := by rw [hln.at 69 80 (by decide)]; exact inb_nI (by omega) (by omega)
    have hp0 : ¬ gI σ 68 0 = 0 := by rw [h0]; exact nI_ne0 hp.1 (by omega)
    have m1 : W * X.2 ≤ 31 * 31 := Nat.mul_le_mul (by omega) (by omega)
    have m2 : W * X.1 ≤ 31 * 31 := Nat.mul_le_mul (by omega) (by omega)
    have m3 : W * X.1 * X.1 ≤ 31 * 31 * 31 := Nat.mul_le_mul m2 (by omega)
    refine bk_La_next_18 _ _ _ _ ⟨fun c => absurd c ?_, fun _ => nn_of g2 ⟨by rw [g3]; exact inb_nI hlt (by omega), nn_of (by rw [ix_nI (by omega)]; omega) ⟨fun c => ⟨b69, hp0, ?_⟩, fun c => ⟨fun c1 => ⟨b69, ?_⟩, fun c1 => ⟨fun c2 => ⟨b69, ?_⟩, fun c2 => ?_⟩⟩⟩⟩⟩
    · rw [g1, nI_leI (by omega) (by omega)]; omega
    · rw [ix_nI (by omega), p2, q0] at c
      rw [ix_nI (by omega), hw69, h0, pk_mul, nI_add, pk_rem (by omega) hp.1 (by omega), nI_1]
      have e : gst (r.2.1 k) W p X = ((X.1 + W * X.2) % p, X.2) := if_pos c
      rw [e] at ih'
      exact ih' _ (by omega)
    · rw [ix_nI (by omega), p2, q0] at c
      rw [ix_nI (by omega), p2, q1] at c1
      rw [ix_nI (by omega), hw69, h0, pk_mul, y_sub]
      refine sp_floorMod (by omega) (by omega) hp.1 (by omega) ?_
      have e : gst (r.2.1 k) W p X = (X.1, fm ((X.2 : Int) - (W * X.1 : Nat)) p) := (if_neg c).trans (if_pos c1)
      rw [e] at ih'
      show Wp lay1 rtOf (Cl lay1 (d + 1)) k_La_next 1 Q (18, [aO 1 68, aO 8 11, u2, aI (nI X.1), aI (nI (fm ((X.2 : Int) - (W * X.1 : Nat)) p)), aI (nI k + 1)], [], σ)
      rw [nI_1]
      exact ih' _ (by omega)
    · rw [ix_nI (by omega), p2, q0] at c
      rw [ix_nI (by omega), p2, q1] at c1
      rw [ix_nI (by omega), p2, q2] at c2
      rw [ix_nI (by omega), hw69, h0, pk_mul, pk_mul, y_sub]
      refine sp_floorMod (by omega) (by omega) hp.1 (by omega) ?_
      have e : gst (r.2.1 k) W p X = (X.1, fm ((X.2 : Int) - (W * X.1 * X.1 : Nat)) p) := ((if_neg c).trans (if_neg c1)).trans (if_pos c2)
      rw [e] at ih'
      show Wp lay1 rtOf (Cl lay1 (d + 1)) k_La_next 1 Q (18, [aO 1 68, aO 8 11, u2, aI (nI X.1), aI (nI (fm ((X.2 : Int) - (W * X.1 * X.1 : Nat)) p)), aI (nI k + 1)], [], σ)
      rw [nI_1]
      exact ih' _ (by omega)
    · rw [ix_nI (by omega), p2, q0] at c
      rw [ix_nI (by omega), p2, q1] at c1
      rw [ix_nI (by omega), p2, q2] at c2
      have e : gst (r.2.1 k) W p X = X := ((if_neg c).trans (if_neg c1)).trans (if_neg c2)
      rw [e] at ih'
      rw [nI_1]
      exact ih' _ (by omega)
theorem pt_div {p q : Nat} (hp : 0 < p) (h : q < p * p) : q / p < p ∧ q % p < p := ⟨(Nat.div_lt_iff_lt_mul hp).mpr h, Nat.mod_lt _ hp⟩
theorem sp_next {r : Rg} {p q : Nat} (hro : rgOK r) (hp : 0 < p ∧ p ≤ 31) (hln : LN σ) (hr : RC σ r) (h0 : gI σ 68 0 = nI p) (hw : wC σ r p r.1) (hq : q < p * p) (h : Q (some (aI (nI (gnx r p q)))) σ) : Cl lay1 (d + 2) M_La_next [aO 1 68, aO 8 11, aI (nI q)] σ Q := by
  have hpp : p * p ≤ 31 * 31 := Nat.mul_le_mul hp.2 hp.2
  have hp0 : ¬ gI σ 68 0 = 0 := by rw [h0]; exact nI_ne0 hp.1 (by omega)
  refine bk_La_next_0 _ ⟨hp0, hp0, ?_⟩
  rw [h0, pk_rem (by omega) hp.1 (by omega), pk_div (by omega) hp.1 (by omega)]
  exact sp_next_loop (z := (q / p, q % p)) hro hp hln hr h0 hw (pt_div hp.1 hq) h r.1 0 _ (by omega)
theorem sp_rounds_loop {r : Rg} {p : Nat} {z : Nat × Nat} (hro : rgOK r) (hp : 0 < p ∧ p ≤ 31) (hln : LN σ) (hr : RR σ r) (hw : wR σ r p r.1) (hz : z.1 < p ∧ z.2 < p) (h : Q (some (aI (nI ((gfo r p r.1 z).1 * p + (gfo r p r.1 z).2)))) σ) : ∀ (m k : Nat) (u2 : AV), k + m = r.1 → Wp lay1 rtOf (Cl lay1 (d + 1)) k_R_rounds 1 Q (12, [aO 12 71, aI (nI p), u2, aI (nI (gfo r p k z).1), aI (nI (gfo r p k z).2), aI (nI k)], [], σ) := by
  have h80 := hro.1
  intro m
  induction m with
  | zero =>
    intro k u2 hk
    refine bk_R_rounds_12 _ _ _ _ _ ⟨fun _ => ?_, fun c => absurd ?_ c⟩
    · rw [pk_mul, nI_add, show k = r.1 by omega]
      exact h
    · rw [hr.1]
      exact (nI_leI (by omega) (by omega)).mpr (by omega)
  | succ m ih =>
    intro k u2 hk
    have hlt : k < r.1 := by omega
    obtain ⟨k1, -, -⟩ := hr.2 k hlt
    obtain ⟨hk4, -⟩ := hro.2 k hlt
    obtain ⟨q0, q1, -, q2, -⟩ := nIk hk4
    have hb := gfo_lt (r := r) hp.1 hz k
    have hwl := gwt_lt (r.2.2 k) hp.1
    have hw93 := hw k hlt
    have ih' := ih (k + 1)
    generalize hW : gwt (r.2.2 k) p = W at hwl hw93
    generalize hX : gfo r p k z = X at hb
    have estep : gfo r p (k + 1) z = gst (r.2.1 k) W p X := by rw [← hX, ← hW]; rfl
    rw [estep] at ih'
    have b93 : inb (nI k) (gN σ 93) := by rw [hln.at 93 80 (by decide)]; exact inb_nI (by omega) (by omega)
    have b85 : inb (nI k) (gN σ 85) := by rw [hln.at 85 80 (by decide)]; exact inb_nI (by omega) (by omega)
    have hp0 : ¬ nI p = 0 := nI_ne0 hp.1 (by omega)
    have m1 : W * X.2 ≤ 31 * 31 := Nat.mul_le_mul (by omega) (by omega)
    have m2 : W * X.1 ≤ 31 * 31 := Nat.mul_le_mul (by omega) (by omega)
    have m4 : X.1 * X.1 ≤ 31 * 31 := Nat.mul_le_mul (by omega) (by omega)
    have m5 := Nat.mod_lt (X.1 * X.1) hp.1
    have m3 : W * (X.1 * X.1 % p) ≤ 31 * 31 := Nat.mul_le_mul (by omega) (by omega)
    refine bk_R_rounds_12 _ _ _ _ _ ⟨fun c => absurd c ?_, fun _ => ⟨b85, fun c => ⟨b93, hp0, ?_⟩, fun c => ⟨b85, fun c1 => ⟨b93, ?_⟩, fun c1 => ⟨b85, fun c2 => ⟨b93, hp0, ?_⟩, fun c2 => ?_⟩⟩⟩⟩
    · rw [hr.1, nI_leI (by omega) (by omega)]; omega
    · rw [ix_nI (by omega), k1, q0] at c
      rw [ix_nI (by omega), hw93, pk_mul, nI_add, pk_rem (by omega) hp.1 (by omega), nI_1]
      have e : gst (r.2.1 k) W p X = ((X.1 + W * X.2) % p, X.2) := if_pos c
      rw [e] at ih'
      exact ih' _ (by omega)
    · rw [ix_nI (by omega), k1, q0] at c
      rw [ix_nI (by omega), k1, q1] at c1
      rw [ix_nI (by omega), hw93, pk_mul, y_sub, I32_64 (by omega) (by omega)]
      refine sp_by (by omega) (by omega) hp.1 (by omega) ?_
      have e : gst (r.2.1 k) W p X = (X.1, fm ((X.2 : Int) - (W * X.1 : Nat)) p) := (if_neg c).trans (if_pos c1)
      rw [e] at ih'
      show Wp lay1 rtOf (Cl lay1 (d + 1)) k_R_rounds 1 Q (12, [aO 12 71, aI (nI p), u2, aI (nI X.1), aI (nI (fm ((X.2 : Int) - (W * X.1 : Nat)) p)), aI (nI k + 1)], [], σ)
      rw [nI_1]
      exact ih' _ (by omega)
    · rw [ix_nI (by omega), k1, q0] at c
      rw [ix_nI (by omega), k1, q1] at c1
      rw [ix_nI (by omega), k1, q2] at c2
      rw [ix_nI (by omega), hw93, pk_mul, pk_rem (by omega) hp.1 (by omega), pk_mul, y_sub, I32_64 (by omega) (by omega)]
      refine sp_by (by omega) (by omega) hp.1 (by omega) ?_
      have e : gst (r.2.1 k) W p X = (X.1, fm ((X.2 : Int) - (W * X.1 * X.1 : Nat)) p) := ((if_neg c).trans (if_neg c1)).trans (if_pos c2)
      rw [e] at ih'
      rw [fm_sq]
      show Wp lay1 rtOf (Cl lay1 (d + 1)) k_R_rounds 1 Q (12, [aO 12 71, aI (nI p), u2, aI (nI X.1), aI (nI (fm ((X.2 : Int) - (W * X.1 * X.1 : Nat)) p)), aI (nI k + 1)], [], σ)
      rw [nI_1]
      exact ih' _ (by omega)
    · rw [ix_nI (by omega), k1, q0] at c
      rw [ix_nI (by omega), k1, q1] at c1
      rw [ix_nI (by omega), k1, q2] at c2
      have e : gst (r.2.1 k) W p X = X := ((if_neg c).trans (if_neg c1)).trans (if_neg c2)
      rw [e] at ih'
      rw [nI_1]
      exact ih' _ (by omega)
theorem sp_rounds {r : Rg} {p q : Nat} (hro : rgOK r) (hp : 0 < p ∧ p ≤ 31) (hln : LN σ) (hr : RR σ r) (hw : wR σ r p r.1) (hq : q < p * p) (h : Q (some (aI (nI (gnx r p q)))) σ) : Cl lay1 (d + 2) M_R_rounds [aO 12 71, aI (nI p), aI (nI q)] σ Q := by
  have hpp : p * p ≤ 31 * 31 := Nat.mul_le_mul hp.2 hp.2
  have hp0 : ¬ nI p = 0 := nI_ne0 hp.1 (by omega)
  refine bk_R_rounds_0 _ _ ⟨hp0, hp0, ?_⟩
  rw [pk_rem (by omega) hp.1 (by omega), pk_div (by omega) hp.1 (by omega)]
  exact sp_rounds_loop (z := (q / p, q % p)) hro hp hln hr hw (pt_div hp.1 hq) h r.1 0 _ (by omega)
end GNEXT
/-! rows of points, followed -/
def ups (S : Nat → Bool) (q : Nat) : Nat → Bool := fun i => if i = q then true else S i
def fol (nx : Nat → Nat) : Nat → (Nat → Bool) → Nat → Nat → (Nat → Bool) × Nat
  | 0, S, _, n => (S, n)
  | f + 1, S, q, n => if S q then (S, n) else fol nx f (ups S q) (nx q) (n + 1)
def cnt (S : Nat → Bool) : Nat → Nat
  | 0 => 0
  | n + 1 => cnt S n + (if S n then 0 else 1)
theorem cnt_le (S : Nat → Bool) : ∀ n, cnt S n ≤ n
  | 0 => Nat.le_refl _
  | n + 1 => by
    have := cnt_le S n
    show cnt S n + (if S n then 0 else 1) ≤ n + 1
    split <;> omega
theorem cnt_same {S : Nat → Bool} {q : Nat} : ∀ {n : Nat}, n ≤ q → cnt (ups S q) n = cnt S n
  | 0, _ => rfl
  | n + 1, h => by
    show cnt (ups S q) n + (if ups S q n then 0 else 1) = cnt S n + (if S n then 0 else 1)
    rw [cnt_same (n := n) (by omega), show ups S q n = S n from if_neg (by omega)]
theorem cnt_ups {S : Nat → Bool} {q : Nat} (hs : S q = false) : ∀ {n : Nat}, q < n → cnt (ups S q) n + 1 = cnt S n
  | 0, h => absurd h (by omega)
  | n + 1, h => by
    show cnt (ups S q) n + (if ups S q n then 0 else 1) + 1 = cnt S n + (if S n then 0 else 1)
    by_cases e : n = q
    · subst e
      rw [cnt_same (Nat.le_refl _), show ups S n n = true from if_pos rfl, hs]
      rfl
    · rw [show ups S q n = S n from if_neg e, ← cnt_ups hs (n := n) (by omega)]
      omega
theorem fol_le {nx : Nat → Nat} {N : Nat} (hn : ∀ q, q < N → nx q < N) : ∀ (f : Nat) (S : Nat → Bool) (q n : Nat), q < N → n + cnt S N ≤ N → (fol nx f S q n).2 ≤ N
  | 0, S, q, n, _, h => by show n ≤ N; omega
  | f + 1, S, q, n, hq, h => by
    unfold fol
    cases hs : S q with
    | true => show n ≤ N; omega
    | false =>
      have := cnt_ups hs hq
      exact fol_le hn f _ _ _ (hn q hq) (by omega)
theorem fol_ge {nx : Nat → Nat} : ∀ (f : Nat) (S : Nat → Bool) (q n : Nat), n ≤ (fol nx f S q n).2
  | 0, _, _, n => Nat.le_refl n
  | f + 1, S, q, n => by
    unfold fol
    cases hs : S q with
    | true => exact Nat.le_refl _
    | false => exact Nat.le_trans (Nat.le_succ n) (fol_ge f _ _ _)
def gnote (k n : Nat) (g : Nat × Nat × Nat × Nat) : Nat × Nat × Nat × Nat := (g.1 + 1, (if n = 1 then g.2.1 + 1 else g.2.1), (if g.2.2.1 < n then n else g.2.2.1), (if g.2.2.1 < n then k else g.2.2.2))
def grun (nx : Nat → Nat) (N : Nat) : Nat → (Nat → Bool) × (Nat × Nat × Nat × Nat)
  | 0 => (fun _ => false, (0, 0, 0, 0))
  | k + 1 => if (grun nx N k).1 k then grun nx N k else ((fol nx N (grun nx N k).1 k 0).1, gnote k (fol nx N (grun nx N k).1 k 0).2 (grun nx N k).2)
theorem grun_t {nx : Nat → Nat} {N k : Nat} (h : (grun nx N k).1 k = true) : grun nx N (k + 1) = grun nx N k := by
  show (if _ then _ else _) = _
  rw [if_pos h]
theorem grun_f {nx : Nat → Nat} {N k : Nat} (h : (grun nx N k).1 k = false) : grun nx N (k + 1) = ((fol nx N (grun nx N k).1 k 0).1, gnote k (fol nx N (grun nx N k).1 k 0).2 (grun nx N k).2) := by
  show (if _ then _ else _) = _
  rw [if_neg (by rw [h]; decide)]
theorem grun_le {nx : Nat → Nat} {N : Nat} (hn : ∀ q, q < N → nx q < N) : ∀ k, k ≤ N → (grun nx N k).2.2.2.1 ≤ N
  | 0, _ => Nat.zero_le _
  | k + 1, h => by
    have ih := grun_le hn k (by omega)
    cases hs : (grun nx N k).1 k with
    | true => rw [grun_t hs]; exact ih
    | false =>
      rw [grun_f hs]
      have := fol_le hn N (grun nx N k).1 k 0 (by omega) (by have := cnt_le (grun nx N k).1 N; omega)
      show (if _ then _ else _) ≤ N
      split <;> omega
theorem grun_pos {nx : Nat → Nat} {N : Nat} (hN : 0 < N) : ∀ k, 1 ≤ (grun nx N (k + 1)).2.2.2.1
  | 0 => by
    rw [grun_f (k := 0) rfl]
    have h1 : 1 ≤ (fol nx N (grun nx N 0).1 0 0).2 := by
      obtain ⟨M, rfl⟩ : ∃ M, N = M + 1 := ⟨N - 1, by omega⟩
      exact fol_ge (nx := nx) M (ups (fun _ => false) 0) (nx 0) 1
    show 1 ≤ if 0 < (fol nx N (grun nx N 0).1 0 0).2 then (fol nx N (grun nx N 0).1 0 0).2 else 0
    rw [if_pos (by omega)]
    exact h1
  | k + 1 => by
    have ih := grun_pos (nx := nx) hN k
    cases hs : (grun nx N (k + 1)).1 (k + 1) with
    | true => rw [grun_t hs]; exact ih
    | false =>
      rw [grun_f hs]
      show 1 ≤ if _ then _ else _
      split <;> omega
