/-! ===== LAYER 3, B: the reference's fractions ===== -/
def atF (σ : St) (f : Int × Nat) : Prop := gL σ 71 37 = L64 f.1 ∧ gL σ 71 38 = L64 f.2
/-- what the reference's arithmetic may change: its register, its flag -/
def hR (σ τ : St) : Prop := sN τ = sN σ ∧ sS τ = sS σ ∧ gN τ = gN σ ∧ gR τ = gR σ ∧ (∀ j k, ¬ (j = 71 ∧ k = 39) → gI τ j k = gI σ j k) ∧ ∀ j k, ¬ (j = 71 ∧ (k = 37 ∨ k = 38)) → gL τ j k = gL σ j k
theorem hR.rf (σ : St) : hR σ σ := ⟨rfl, rfl, rfl, rfl, fun _ _ _ => rfl, fun _ _ _ => rfl⟩
theorem hR.trans {σ τ υ : St} (h : hR σ τ) (g : hR τ υ) : hR σ υ :=
  ⟨g.1.trans h.1, g.2.1.trans h.2.1, g.2.2.1.trans h.2.2.1, g.2.2.2.1.trans h.2.2.2.1, fun j k q => (g.2.2.2.2.1 j k q).trans (h.2.2.2.2.1 j k q), fun j k q => (g.2.2.2.2.2 j k q).trans (h.2.2.2.2.2 j k q)⟩
def stA (σ : St) (f : Int × Nat) : St := pL (pL σ 71 37 (L64 f.1)) 71 38 (L64 f.2)
theorem stA_is (σ : St) (f : Int × Nat) : atF (stA σ f) f := by
  unfold stA
  refine ⟨?_, ?_⟩
  · rw [gL_pL, if_neg (by omega), gL_pL, if_pos ⟨rfl, rfl⟩]
  · rw [gL_pL, if_pos ⟨rfl, rfl⟩]
theorem stA_hR (σ : St) (f : Int × Nat) : hR σ (stA σ f) := by
  refine ⟨rfl, rfl, rfl, rfl, fun _ _ _ => rfl, fun j k h => ?_⟩
  unfold stA
  rw [gL_pL, if_neg (fun z => h ⟨z.1, Or.inr z.2⟩), gL_pL, if_neg (fun z => h ⟨z.1, Or.inl z.2⟩)]
theorem rflag_hR (σ : St) : hR σ (pI σ 71 39 1) := ⟨rfl, rfl, rfl, rfl, fun j k h => by rw [gI_pI, if_neg h], fun _ _ _ => rfl⟩
def hP (σ : St) (r : Option (Int × Nat)) (τ : St) : Prop := hR σ τ ∧ (∃ f, atF τ f ∧ fOK f) ∧ match r with
  | some f => atF τ f ∧ gI τ 71 39 = gI σ 71 39
  | none => gI τ 71 39 = 1
section RFRAC
variable {d : Nat} {σ : St} {Q : Option AV → St → Prop}
theorem sp_in {v lo hi : Int} (h1 : -9223372036854775808 ≤ v) (h2 : v < 9223372036854775808) (h3 : -9223372036854775808 ≤ lo) (h4 : lo < 9223372036854775808) (h5 : -9223372036854775808 ≤ hi) (h6 : hi < 9223372036854775808) (hy : lo ≤ v ∧ v ≤ hi → Q (some (aI 1)) σ) (hn : ¬ (lo ≤ v ∧ v ≤ hi) → Q (some (aI 0)) σ) : Cl lay1 (d + 1) M_R_in [aJ (L64 v), aJ (L64 lo), aJ (L64 hi)] σ Q := by
  refine bk_R_in_0 _ _ _ ⟨fun c => ⟨b01, ?_⟩, fun c => ⟨fun c2 => ⟨b01, ?_⟩, fun c2 => ⟨b11, ?_⟩⟩⟩
  · rw [cmpL_lt h1 h2 h3 h4] at c
    exact hn (by omega)
  · rw [cmpL_gt h1 h2 h5 h6] at c2
    exact hn (by omega)
  · rw [cmpL_lt h1 h2 h3 h4] at c
    rw [cmpL_gt h1 h2 h5 h6] at c2
    exact hy (by omega)
theorem sp_holds {a : Int} {b : Nat} (ha : a.natAbs ≤ 4000000000000000000) (hb0 : 0 < b) (hb : b ≤ 4000000000000000000) (h : ∀ τ, hP σ (fnm a b) τ → Q none τ) : Cl lay1 (d + 2) M_R_holds [aO 12 71, aJ (L64 a), aJ (L64 b)] σ Q := by
  obtain ⟨g1, g2, g3⟩ := gcd_facts (a := a) hb0
  refine bk_R_holds_0 _ _ ?_
  refine sp_common (by omega) (by omega) (by omega) ?_
  refine ⟨L64_ne0 (by omega) (by omega) (by omega), L64_ne0 (by omega) (by omega) (by omega), ?_⟩
  have hbd : b / Nat.gcd a.natAbs b ≤ b := Nat.div_le_self _ _
  have hq0 : (0 : Int) ≤ ((b / Nat.gcd a.natAbs b : Nat) : Int) := Int.natCast_nonneg _
  rw [L64_div (by omega) (by omega) (by omega) (by omega), L64_div (by omega) (by omega) (by omega) (by omega), tdivN]
  have hA := stA_is σ (a.tdiv (Nat.gcd a.natAbs b : Nat), b / Nat.gcd a.natAbs b)
  have hAR := stA_hR σ (a.tdiv (Nat.gcd a.natAbs b : Nat), b / Nat.gcd a.natAbs b)
  have hflag : gI (stA σ (a.tdiv (Nat.gcd a.natAbs b : Nat), b / Nat.gcd a.natAbs b)) 71 39 = gI σ 71 39 := rfl
  show Cl lay1 (d + 1) M_R_in [aJ (gL (stA σ (a.tdiv (Nat.gcd a.natAbs b : Nat), b / Nat.gcd a.natAbs b)) 71 37), aJ (-1000000000 : Int64), aJ (1000000000 : Int64)] (stA σ (a.tdiv (Nat.gcd a.natAbs b : Nat), b / Nat.gcd a.natAbs b)) _
  generalize stA σ (a.tdiv (Nat.gcd a.natAbs b : Nat), b / Nat.gcd a.natAbs b) = σ1 at hA hAR hflag ⊢
  have big : fnm a b = none → Q none (pL (pL (pI σ1 71 39 1) 71 37 0) 71 38 1) := by
    intro hn
    refine h _ ?_
    rw [hn]
    have e : pL (pL (pI σ1 71 39 1) 71 37 0) 71 38 1 = stA (pI σ1 71 39 1) (0, 1) := rfl
    rw [e]
    refine ⟨(hAR.trans (rflag_hR σ1)).trans (stA_hR _ _), ⟨(0, 1), stA_is _ _, by decide, by decide, by decide⟩, ?_⟩
    show gI (pI σ1 71 39 1) 71 39 = 1
    rw [gI_pI, if_pos ⟨rfl, rfl⟩]
  have h37 : gL σ1 71 37 = L64 (a.tdiv (Nat.gcd a.natAbs b : Nat)) := hA.1
  have h38 : gL σ1 71 38 = L64 (b / Nat.gcd a.natAbs b : Nat) := hA.2
  rw [h37, L64_mB, L64_B]
  refine sp_in (by omega) (by omega) (by omega) (by omega) (by omega) (by omega) (fun c => ?_) (fun c => ?_)
  · refine ⟨fun z => absurd z (by decide), fun _ => ⟨fun c2 => ?_, fun c2 => ⟨b11, ?_⟩⟩⟩
    · rw [h38, cmpL_le (by omega) (by omega) (by omega) (by omega)] at c2
      have hf : fnm a b = some (a.tdiv (Nat.gcd a.natAbs b : Nat), b / Nat.gcd a.natAbs b) := by unfold fnm; rw [if_pos ⟨by omega, by omega⟩]
      refine h _ ?_
      rw [hf]
      exact ⟨hAR, ⟨_, hA, fnm_ok hb0 hf⟩, hA, hflag⟩
    · rw [h38, cmpL_le (by omega) (by omega) (by omega) (by omega)] at c2
      exact big (by unfold fnm; rw [if_neg (by omega)])
  · refine ⟨fun _ => ⟨b11, ?_⟩, fun z => absurd rfl z⟩
    exact big (by unfold fnm; rw [if_neg (by omega)])
/-- the operations, their arguments as pairs in lowest terms, the first above turned where it is asked for -/
theorem sp_product {x y : Int × Nat} (hxo : fOK x) (hyo : fOK y) (h : ∀ τ, hP σ (fmul x y) τ → Q none τ) : Cl lay1 (d + 3) M_R_product [aO 12 71, aJ (L64 x.1), aJ (L64 x.2), aJ (L64 y.1), aJ (L64 y.2)] σ Q := by
  refine bk_R_product_0 _ _ _ _ ?_
  rw [L64_mul, L64_mul, ← Int.natCast_mul]
  have h1 := fOK_mul hxo.1 hyo.1
  have h3 := fOK_mulN hxo.2.2 hyo.2.2
  exact sp_holds (by omega) (Nat.mul_pos hxo.2.1 hyo.2.1) (by omega) h
theorem sp_sum {x y : Int × Nat} (hxo : fOK x) (hyo : fOK y) (h : ∀ τ, hP σ (fadd x y) τ → Q none τ) : Cl lay1 (d + 3) M_R_sum [aO 12 71, aJ (L64 x.1), aJ (L64 x.2), aJ (L64 y.1), aJ (L64 y.2)] σ Q := by
  refine bk_R_sum_0 _ _ _ _ ?_
  rw [L64_mul, L64_mul, L64_mul, L64_add, ← Int.natCast_mul]
  have h1 := fOK_mul hxo.1 (show (y.2 : Int).natAbs ≤ 1000000000 from hyo.2.2)
  have h2 := fOK_mul hyo.1 (show (x.2 : Int).natAbs ≤ 1000000000 from hxo.2.2)
  have h3 := fOK_mulN hxo.2.2 hyo.2.2
  exact sp_holds (by omega) (Nat.mul_pos hxo.2.1 hyo.2.1) (by omega) h
theorem fneg_ok {x : Int × Nat} (h : fOK x) : fOK (-x.1, x.2) := ⟨by show (-x.1).natAbs ≤ _; rw [Int.natAbs_neg]; exact h.1, h.2.1, h.2.2⟩
theorem fadd_neg (x y : Int × Nat) : fadd x (-y.1, y.2) = fsub x y := by
  unfold fadd fsub
  show fnm (x.1 * y.2 + -y.1 * x.2) _ = _
  rw [Int.neg_mul, ← Int.sub_eq_add_neg]
theorem fnm_neg (a : Int) (b : Nat) : fnm (-a) b = (fnm a b).map (fun f => (-f.1, f.2)) := by
  unfold fnm
  rw [Int.natAbs_neg, Int.neg_tdiv, Int.natAbs_neg]
  split
  · rfl
  · rfl
theorem fmul_neg (x y : Int × Nat) : fmul (-x.1, x.2) y = (fmul x y).map (fun f => (-f.1, f.2)) := by
  unfold fmul
  show fnm (-x.1 * y.1) _ = _
  rw [Int.neg_mul]
  exact fnm_neg _ _
theorem sp_divided {x y : Int × Nat} (hxo : fOK x) (hyo : fOK y) (hy0 : y.1 ≠ 0) (h : ∀ τ, hP σ (fdiv x y) τ → Q none τ) : Cl lay1 (d + 4) M_R_divided [aO 12 71, aJ (L64 x.1), aJ (L64 x.2), aJ (L64 y.1), aJ (L64 y.2)] σ Q := by
  have hy1 := hyo.1
  refine bk_R_divided_0 _ _ _ _ ⟨fun c => ?_, fun c => ?_⟩
  · rw [L64_0, cmpL_ge (by omega) (by omega) (by omega) (by omega)] at c
    have e : L64 y.1 = L64 (y.1.natAbs : Nat) := by rw [show (y.1.natAbs : Int) = y.1 by omega]
    rw [e]
    refine sp_product (y := ((y.2 : Int), y.1.natAbs)) hxo ⟨by show (y.2 : Int).natAbs ≤ _; exact hyo.2.2, by show 0 < y.1.natAbs; omega, hyo.1⟩ (fun τ hτ => h τ ?_)
    unfold fdiv
    rw [if_pos (by omega)]
    exact hτ
  · rw [L64_0, cmpL_ge (by omega) (by omega) (by omega) (by omega)] at c
    have e : -L64 y.1 = L64 (y.1.natAbs : Nat) := by rw [L64_neg, show (y.1.natAbs : Int) = -y.1 by omega]
    rw [e, L64_neg]
    refine sp_product (y := (-(y.2 : Int), y.1.natAbs)) hxo ⟨by show (-(y.2 : Int)).natAbs ≤ _; rw [Int.natAbs_neg]; exact hyo.2.2, by show 0 < y.1.natAbs; omega, hyo.1⟩ (fun τ hτ => h τ ?_)
    unfold fdiv
    rw [if_neg (by omega)]
    have e2 : fmul x (-(y.2 : Int), y.1.natAbs) = fnm (-x.1 * y.2) (x.2 * y.1.natAbs) := by
      unfold fmul
      show fnm (x.1 * -(y.2 : Int)) _ = _
      rw [Int.mul_neg, Int.neg_mul]
    rw [← e2]
    exact hτ
end RFRAC
