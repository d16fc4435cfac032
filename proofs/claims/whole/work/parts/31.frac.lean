/-! ===== LAYER 3, B: fractions ===== -/
/-- lowest terms; nothing where it is BIG -/
def fnm (a : Int) (b : Nat) : Option (Int × Nat) := if (a.tdiv (Nat.gcd a.natAbs b : Nat)).natAbs ≤ 1000000000 ∧ b / Nat.gcd a.natAbs b ≤ 1000000000 then some (a.tdiv (Nat.gcd a.natAbs b : Nat), b / Nat.gcd a.natAbs b) else none
theorem L64_B : (1000000000 : Int64) = L64 1000000000 := by decide +kernel
theorem L64_mB : (-1000000000 : Int64) = L64 (-1000000000) := by decide +kernel
def fOK (f : Int × Nat) : Prop := f.1.natAbs ≤ 1000000000 ∧ 0 < f.2 ∧ f.2 ≤ 1000000000
def fadd (x y : Int × Nat) : Option (Int × Nat) := fnm (x.1 * y.2 + y.1 * x.2) (x.2 * y.2)
def fsub (x y : Int × Nat) : Option (Int × Nat) := fnm (x.1 * y.2 - y.1 * x.2) (x.2 * y.2)
def fmul (x y : Int × Nat) : Option (Int × Nat) := fnm (x.1 * y.1) (x.2 * y.2)
def fdiv (x y : Int × Nat) : Option (Int × Nat) := if 0 < y.1 then fnm (x.1 * y.2) (x.2 * y.1.natAbs) else fnm (-x.1 * y.2) (x.2 * y.1.natAbs)
theorem fnm_ok {a : Int} {b : Nat} {f : Int × Nat} (hb : 0 < b) (h : fnm a b = some f) : fOK f := by
  unfold fnm at h
  split at h
  · next hc =>
    cases h
    refine ⟨hc.1, ?_, hc.2⟩
    have hg : 0 < Nat.gcd a.natAbs b := Nat.gcd_pos_of_pos_right _ hb
    exact Nat.div_pos (Nat.le_of_dvd hb (Nat.gcd_dvd_right _ _)) hg
  · cases h
theorem fOK_mul {a b : Int} (ha : a.natAbs ≤ 1000000000) (hb : b.natAbs ≤ 1000000000) : (a * b).natAbs ≤ 1000000000000000000 := by
  rw [Int.natAbs_mul]
  calc a.natAbs * b.natAbs ≤ 1000000000 * 1000000000 := Nat.mul_le_mul ha hb
    _ = 1000000000000000000 := by decide
theorem fOK_mulN {a b : Nat} (ha : a ≤ 1000000000) (hb : b ≤ 1000000000) : a * b ≤ 1000000000000000000 := by
  calc a * b ≤ 1000000000 * 1000000000 := Nat.mul_le_mul ha hb
    _ = 1000000000000000000 := by decide
def isF (σ : St) (j : Nat) (f : Int × Nat) : Prop := gL σ j 0 = L64 f.1 ∧ gL σ j 1 = L64 f.2
/-- what the component's arithmetic may change: fractions in S, the flag -/
def ar (S : List Nat) (σ τ : St) : Prop := sN τ = sN σ ∧ sS τ = sS σ ∧ gN τ = gN σ ∧ gR τ = gR σ ∧ (∀ j k, ¬ (j = 30 ∧ k = 0) → gI τ j k = gI σ j k) ∧ ∀ j, j ∉ S → ∀ k, gL τ j k = gL σ j k
theorem ar.rf (S : List Nat) (σ : St) : ar S σ σ := ⟨rfl, rfl, rfl, rfl, fun _ _ _ => rfl, fun _ _ _ => rfl⟩
theorem ar.trans {S : List Nat} {σ τ υ : St} (h : ar S σ τ) (g : ar S τ υ) : ar S σ υ :=
  ⟨g.1.trans h.1, g.2.1.trans h.2.1, g.2.2.1.trans h.2.2.1, g.2.2.2.1.trans h.2.2.2.1, fun j k q => (g.2.2.2.2.1 j k q).trans (h.2.2.2.2.1 j k q), fun j q k => (g.2.2.2.2.2 j q k).trans (h.2.2.2.2.2 j q k)⟩
theorem ar.mono {S T : List Nat} {σ τ : St} (h : ar S σ τ) (hs : ∀ j ∈ S, j ∈ T) : ar T σ τ :=
  ⟨h.1, h.2.1, h.2.2.1, h.2.2.2.1, h.2.2.2.2.1, fun j q k => h.2.2.2.2.2 j (fun z => q (hs j z)) k⟩
theorem ar.F {S : List Nat} {σ τ : St} (h : ar S σ τ) {j : Nat} {f : Int × Nat} (hj : j ∉ S) (hf : isF σ j f) : isF τ j f := ⟨(h.2.2.2.2.2 j hj 0).trans hf.1, (h.2.2.2.2.2 j hj 1).trans hf.2⟩
def stF (σ : St) (j : Nat) (f : Int × Nat) : St := pL (pL σ j 0 (L64 f.1)) j 1 (L64 f.2)
theorem stF_is (σ : St) (j : Nat) (f : Int × Nat) : isF (stF σ j f) j f := by
  unfold stF
  refine ⟨?_, ?_⟩
  · rw [gL_pL, if_neg (by omega), gL_pL, if_pos ⟨rfl, rfl⟩]
  · rw [gL_pL, if_pos ⟨rfl, rfl⟩]
theorem stF_ar (σ : St) (j : Nat) (f : Int × Nat) : ar [j] σ (stF σ j f) := by
  refine ⟨rfl, rfl, rfl, rfl, fun _ _ _ => rfl, fun i hi k => ?_⟩
  have : ¬ i = j := fun z => hi (by rw [z]; exact List.mem_singleton.mpr rfl)
  unfold stF
  rw [gL_pL, if_neg (fun z => this z.1), gL_pL, if_neg (fun z => this z.1)]
theorem flag_ar (S : List Nat) (σ : St) : ar S σ (pI σ 30 0 1) := ⟨rfl, rfl, rfl, rfl, fun j k h => by rw [gI_pI, if_neg h], fun _ _ _ => rfl⟩
/-- behind an operation on fraction t: r is told, or BIG is -/
def opP (S : List Nat) (σ : St) (t : Nat) (r : Option (Int × Nat)) (τ : St) : Prop := ar S σ τ ∧ (∃ f, isF τ t f ∧ fOK f) ∧ match r with
  | some f => isF τ t f ∧ gI τ 30 0 = gI σ 30 0
  | none => gI τ 30 0 = 1
section FRAC
variable {d : Nat} {σ : St} {Q : Option AV → St → Prop}
theorem gcd_facts {a : Int} {b : Nat} (hb : 0 < b) : 0 < Nat.gcd a.natAbs b ∧ Nat.gcd a.natAbs b ≤ b ∧ (a.tdiv (Nat.gcd a.natAbs b : Nat)).natAbs ≤ a.natAbs := ⟨Nat.gcd_pos_of_pos_right _ hb, Nat.le_of_dvd hb (Nat.gcd_dvd_right _ _), Int.natAbs_tdiv_le_natAbs _ _⟩
theorem tdivN (b g : Nat) : (b : Int).tdiv (g : Int) = ((b / g : Nat) : Int) := by
  rw [Int.tdiv_eq_ediv_of_nonneg (by omega)]
  rfl
theorem sp_settle {t : Nat} {a : Int} {b : Nat} (ha : a.natAbs ≤ 4000000000000000000) (hb0 : 0 < b) (hb : b ≤ 4000000000000000000) {x : Int × Nat} (hx : isF σ (t + 1) x) (hxo : fOK x) (h : ∀ τ, opP [t + 1] σ (t + 1) (fnm a b) τ → Q none τ) : Cl lay1 (d + 2) M_Rk_settle [aO 7 30, aO 0 (t + 1), aJ (L64 a), aJ (L64 b)] σ Q := by
  obtain ⟨g1, g2, g3⟩ := gcd_facts (a := a) hb0
  have big : ∀ τ, τ = pI σ 30 0 1 → fnm a b = none → Q none τ := by
    intro τ hτ hn
    refine h τ ?_
    rw [hn, hτ]
    exact ⟨flag_ar _ _, ⟨x, hx, hxo⟩, by show gI (pI σ 30 0 1) 30 0 = 1; rw [gI_pI, if_pos ⟨rfl, rfl⟩]⟩
  refine bk_Rk_settle_0 _ _ _ ?_
  refine sp_abs (by omega) (by omega) ?_
  refine sp_cd (by omega) (by omega) ?_
  refine ⟨fun _ => ⟨L64_ne0 (by omega) (by omega) (by omega), ?_⟩, fun c => absurd ?_ c⟩
  · rw [L64_div (by omega) (by omega) (by omega) (by omega)]
    refine sp_abs (by omega) (by omega) ?_
    refine ⟨fun c => ⟨b11, ?_⟩, fun c => ⟨L64_ne0 (by omega) (by omega) (by omega), ?_⟩⟩
    · rw [L64_B, cmpL_gt (by omega) (by omega) (by omega) (by omega)] at c
      exact big _ rfl (by unfold fnm; rw [if_neg (by omega)])
    · rw [L64_B, cmpL_gt (by omega) (by omega) (by omega) (by omega)] at c
      rw [L64_div (by omega) (by omega) (by omega) (by omega), tdivN]
      have hbd : b / Nat.gcd a.natAbs b ≤ b := Nat.div_le_self _ _
      have hq0 : (0 : Int) ≤ ((b / Nat.gcd a.natAbs b : Nat) : Int) := Int.natCast_nonneg _
      refine ⟨fun c2 => ⟨L64_ne0 (by omega) (by omega) (by omega), L64_ne0 (by omega) (by omega) (by omega), ?_⟩, fun c2 => ⟨b11, ?_⟩⟩
      · rw [L64_B, cmpL_le (by omega) (by omega) (by omega) (by omega)] at c2
        have hf : fnm a b = some (a.tdiv (Nat.gcd a.natAbs b : Nat), b / Nat.gcd a.natAbs b) := by unfold fnm; rw [if_pos ⟨by omega, by omega⟩]
        refine h _ ?_
        rw [hf]
        have hs := stF_is σ (t + 1) (a.tdiv (Nat.gcd a.natAbs b : Nat), b / Nat.gcd a.natAbs b)
        exact ⟨stF_ar σ (t + 1) (a.tdiv (Nat.gcd a.natAbs b : Nat), b / Nat.gcd a.natAbs b), ⟨_, hs, fnm_ok hb0 hf⟩, hs, rfl⟩
      · rw [L64_B, cmpL_le (by omega) (by omega) (by omega) (by omega)] at c2
        exact big _ rfl (by unfold fnm; rw [if_neg (by omega)])
  · rw [L64_0]
    exact (cmpL_gt (by omega) (by omega) (by omega) (by omega)).mpr (by omega)
theorem sp_plus {t u : Nat} {x y : Int × Nat} (hx : isF σ (t + 1) x) (hxo : fOK x) (hy : isF σ (u + 1) y) (hyo : fOK y) (h : ∀ τ, opP [t + 1] σ (t + 1) (fadd x y) τ → Q none τ) : Cl lay1 (d + 3) M_Rk_plus [aO 7 30, aO 0 (t + 1), aO 0 (u + 1)] σ Q := by
  refine bk_Rk_plus_0 _ _ ?_
  rw [hx.1, hx.2, hy.1, hy.2, L64_mul, L64_mul, L64_mul, L64_add, ← Int.natCast_mul]
  have h1 := fOK_mul hxo.1 (show (y.2 : Int).natAbs ≤ 1000000000 from hyo.2.2)
  have h2 := fOK_mul hyo.1 (show (x.2 : Int).natAbs ≤ 1000000000 from hxo.2.2)
  have h3 := fOK_mulN hxo.2.2 hyo.2.2
  exact sp_settle (by omega) (Nat.mul_pos hxo.2.1 hyo.2.1) (by omega) hx hxo h
theorem sp_minus {t u : Nat} {x y : Int × Nat} (hx : isF σ (t + 1) x) (hxo : fOK x) (hy : isF σ (u + 1) y) (hyo : fOK y) (h : ∀ τ, opP [t + 1] σ (t + 1) (fsub x y) τ → Q none τ) : Cl lay1 (d + 3) M_Rk_minus [aO 7 30, aO 0 (t + 1), aO 0 (u + 1)] σ Q := by
  refine bk_Rk_minus_0 _ _ ?_
  rw [hx.1, hx.2, hy.1, hy.2, L64_mul, L64_mul, L64_mul, L64_sub, ← Int.natCast_mul]
  have h1 := fOK_mul hxo.1 (show (y.2 : Int).natAbs ≤ 1000000000 from hyo.2.2)
  have h2 := fOK_mul hyo.1 (show (x.2 : Int).natAbs ≤ 1000000000 from hxo.2.2)
  have h3 := fOK_mulN hxo.2.2 hyo.2.2
  exact sp_settle (by omega) (Nat.mul_pos hxo.2.1 hyo.2.1) (by omega) hx hxo h
theorem sp_times {t u : Nat} {x y : Int × Nat} (hx : isF σ (t + 1) x) (hxo : fOK x) (hy : isF σ (u + 1) y) (hyo : fOK y) (h : ∀ τ, opP [t + 1] σ (t + 1) (fmul x y) τ → Q none τ) : Cl lay1 (d + 3) M_Rk_times [aO 7 30, aO 0 (t + 1), aO 0 (u + 1)] σ Q := by
  refine bk_Rk_times_0 _ _ ?_
  rw [hx.1, hx.2, hy.1, hy.2, L64_mul, L64_mul, ← Int.natCast_mul]
  have h1 := fOK_mul hxo.1 hyo.1
  have h3 := fOK_mulN hxo.2.2 hyo.2.2
  exact sp_settle (by omega) (Nat.mul_pos hxo.2.1 hyo.2.1) (by omega) hx hxo h
theorem sp_over {t u : Nat} {x y : Int × Nat} (hx : isF σ (t + 1) x) (hxo : fOK x) (hy : isF σ (u + 1) y) (hyo : fOK y) (hy0 : y.1 ≠ 0) (h : ∀ τ, opP [t + 1] σ (t + 1) (fdiv x y) τ → Q none τ) : Cl lay1 (d + 3) M_Rk_over [aO 7 30, aO 0 (t + 1), aO 0 (u + 1)] σ Q := by
  have hy1 := hyo.1
  have h1 := fOK_mul hxo.1 (show (y.2 : Int).natAbs ≤ 1000000000 from hyo.2.2)
  have h3 := fOK_mulN hxo.2.2 hyo.1
  refine bk_Rk_over_0 _ _ ⟨fun c => ?_, fun c => ?_⟩
  · rw [hy.1, L64_0, cmpL_le (by omega) (by omega) (by omega) (by omega)] at c
    refine ⟨fun c2 => ?_, fun _ => ?_⟩
    · rw [hy.1, L64_0, cmpL_ge (by omega) (by omega) (by omega) (by omega)] at c2
      exact absurd (by omega) hy0
    · have e : -(x.2 : Int) * y.1 = ((x.2 * y.1.natAbs : Nat) : Int) := by
        rw [Int.natCast_mul, show (y.1.natAbs : Int) = -y.1 by omega, Int.mul_neg, Int.neg_mul]
      rw [hx.1, hx.2, hy.1, hy.2, L64_neg, L64_neg, L64_mul, L64_mul, e]
      have h1' : (-x.1 * (y.2 : Int)).natAbs ≤ 1000000000000000000 := by rw [Int.neg_mul, Int.natAbs_neg]; exact h1
      refine sp_settle (by omega) (Nat.mul_pos hxo.2.1 (by omega)) (by omega) hx hxo (fun τ hτ => h τ ?_)
      unfold fdiv
      rw [if_neg (by omega)]
      exact hτ
  · rw [hy.1, L64_0, cmpL_le (by omega) (by omega) (by omega) (by omega)] at c
    have e : (x.2 : Int) * y.1 = ((x.2 * y.1.natAbs : Nat) : Int) := by
      rw [Int.natCast_mul, show (y.1.natAbs : Int) = y.1 by omega]
    rw [hx.1, hx.2, hy.1, hy.2, L64_mul, L64_mul, e]
    refine sp_settle (by omega) (Nat.mul_pos hxo.2.1 (by omega)) (by omega) hx hxo (fun τ hτ => h τ ?_)
    unfold fdiv
    rw [if_pos (by omega)]
    exact hτ
theorem sp_copy {t u : Nat} {y : Int × Nat} (hy : isF σ (u + 1) y) (h : ∀ τ, ar [t + 1] σ τ → isF τ (t + 1) y → gI τ 30 0 = gI σ 30 0 → Q none τ) : Cl lay1 (d + 1) M_Fr_copy [aO 0 (t + 1), aO 0 (u + 1)] σ Q := by
  refine bk_Fr_copy_0 _ _ ?_
  have e : pL (pL σ (t + 1) 0 (gL σ (u + 1) 0)) (t + 1) 1 (gL (pL σ (t + 1) 0 (gL σ (u + 1) 0)) (u + 1) 1) = stF σ (t + 1) y := by
    unfold stF
    rw [gL_pL, if_neg (by omega), hy.1, hy.2]
  rw [e]
  exact h _ (stF_ar _ _ _) (stF_is _ _ _) rfl
theorem sp_plusProduct {t u w : Nat} {x y z : Int × Nat} (hx : isF σ (t + 1) x) (hxo : fOK x) (hy : isF σ (u + 1) y) (hyo : fOK y) (hz : isF σ (w + 1) z) (hzo : fOK z) (ht : t ≠ 30) (hw : w ≠ 30) (h : ∀ τ, opP [t + 1, 31] σ (t + 1) ((fmul y z).bind (fadd x)) τ → Q none τ) : Cl lay1 (d + 4) M_Rk_plusProduct [aO 7 30, aO 0 (t + 1), aO 0 (u + 1), aO 0 (w + 1)] σ Q := by
  refine bk_Rk_plusProduct_0 _ _ _ ?_
  refine sp_copy (t := 30) hy (fun τ1 a1 f1 b1 => ?_)
  refine sp_times (t := 30) f1 hyo (a1.F (by simpa using hw) hz) hzo (fun τ2 p2 => ?_)
  obtain ⟨a2, ⟨g, hg, hgo⟩, r2⟩ := p2
  have hx2 : isF τ2 (t + 1) x := a2.F (by simpa using ht) (a1.F (by simpa using ht) hx)
  have a12 : ar [t + 1, 31] σ τ2 := (a1.trans a2).mono (by simp)
  cases hm : fmul y z with
  | none =>
    rw [hm] at r2
    refine sp_plus (u := 30) hx2 hxo hg hgo (fun τ3 p3 => h τ3 ?_)
    obtain ⟨a3, e3, r3⟩ := p3
    refine ⟨a12.trans (a3.mono (by simp)), e3, ?_⟩
    rw [hm]
    show gI τ3 30 0 = 1
    cases hf : fadd x g with
    | none => rw [hf] at r3; exact r3
    | some f => rw [hf] at r3; exact r3.2.trans r2
  | some g' =>
    rw [hm] at r2
    have hgo' : fOK g' := fnm_ok (Nat.mul_pos hyo.2.1 hzo.2.1) hm
    refine sp_plus (u := 30) hx2 hxo r2.1 hgo' (fun τ3 p3 => h τ3 ?_)
    obtain ⟨a3, e3, r3⟩ := p3
    refine ⟨a12.trans (a3.mono (by simp)), e3, ?_⟩
    rw [hm]
    show (match fadd x g' with
      | some f => isF τ3 (t + 1) f ∧ gI τ3 30 0 = gI σ 30 0
      | none => gI τ3 30 0 = 1)
    cases hf : fadd x g' with
    | none => rw [hf] at r3; exact r3
    | some f => rw [hf] at r3; exact ⟨r3.1, r3.2.trans (r2.2.trans b1)⟩
theorem sp_minusProduct {t u w : Nat} {x y z : Int × Nat} (hx : isF σ (t + 1) x) (hxo : fOK x) (hy : isF σ (u + 1) y) (hyo : fOK y) (hz : isF σ (w + 1) z) (hzo : fOK z) (ht : t ≠ 30) (hw : w ≠ 30) (h : ∀ τ, opP [t + 1, 31] σ (t + 1) ((fmul y z).bind (fsub x)) τ → Q none τ) : Cl lay1 (d + 4) M_Rk_minusProduct [aO 7 30, aO 0 (t + 1), aO 0 (u + 1), aO 0 (w + 1)] σ Q := by
  refine bk_Rk_minusProduct_0 _ _ _ ?_
  refine sp_copy (t := 30) hy (fun τ1 a1 f1 b1 => ?_)
  refine sp_times (t := 30) f1 hyo (a1.F (by simpa using hw) hz) hzo (fun τ2 p2 => ?_)
  obtain ⟨a2, ⟨g, hg, hgo⟩, r2⟩ := p2
  have hx2 : isF τ2 (t + 1) x := a2.F (by simpa using ht) (a1.F (by simpa using ht) hx)
  have a12 : ar [t + 1, 31] σ τ2 := (a1.trans a2).mono (by simp)
  cases hm : fmul y z with
  | none =>
    rw [hm] at r2
    refine sp_minus (u := 30) hx2 hxo hg hgo (fun τ3 p3 => h τ3 ?_)
    obtain ⟨a3, e3, r3⟩ := p3
    refine ⟨a12.trans (a3.mono (by simp)), e3, ?_⟩
    rw [hm]
    show gI τ3 30 0 = 1
    cases hf : fsub x g with
    | none => rw [hf] at r3; exact r3
    | some f => rw [hf] at r3; exact r3.2.trans r2
  | some g' =>
    rw [hm] at r2
    have hgo' : fOK g' := fnm_ok (Nat.mul_pos hyo.2.1 hzo.2.1) hm
    refine sp_minus (u := 30) hx2 hxo r2.1 hgo' (fun τ3 p3 => h τ3 ?_)
    obtain ⟨a3, e3, r3⟩ := p3
    refine ⟨a12.trans (a3.mono (by simp)), e3, ?_⟩
    rw [hm]
    show (match fsub x g' with
      | some f => isF τ3 (t + 1) f ∧ gI τ3 30 0 = gI σ 30 0
      | none => gI τ3 30 0 = 1)
    cases hf : fsub x g' with
    | none => rw [hf] at r3; exact r3
    | some f => rw [hf] at r3; exact ⟨r3.1, r3.2.trans (r2.2.trans b1)⟩
/-- a whole pair is put, in lowest terms -/
theorem sp_put {t : Nat} {a : Int} {b : Nat} (ha : a.natAbs ≤ 4000000000000000000) (hb0 : 0 < b) (hb : b ≤ 4000000000000000000) (h : Q none (stF σ (t + 1) (a.tdiv (Nat.gcd a.natAbs b : Nat), b / Nat.gcd a.natAbs b))) : Cl lay1 (d + 2) M_Fr_put [aO 0 (t + 1), aJ (L64 a), aJ (L64 b)] σ Q := by
  obtain ⟨g1, g2, g3⟩ := gcd_facts (a := a) hb0
  refine bk_Fr_put_0 _ _ _ ?_
  refine sp_abs (by omega) (by omega) ?_
  refine sp_cd (by omega) (by omega) ?_
  refine ⟨fun c => ?_, fun _ => ⟨L64_ne0 (by omega) (by omega) (by omega), L64_ne0 (by omega) (by omega) (by omega), ?_⟩⟩
  · rw [L64_0, cmpL_le (by omega) (by omega) (by omega) (by omega)] at c
    omega
  · rw [L64_div (by omega) (by omega) (by omega) (by omega), L64_div (by omega) (by omega) (by omega) (by omega), tdivN]
    exact h
end FRAC
