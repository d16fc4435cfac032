/-! ===== LAYER 3, E: numbers of the grid ===== -/
def I32 (v : Int) : Int32 := Int32.ofInt v
theorem I32_i {v : Int} (h : -2147483648 ≤ v) (h2 : v < 2147483648) : (I32 v).toInt = v := Int32.toInt_ofInt_of_le h h2
theorem nI_I32 (n : Nat) : nI n = I32 n := by
  apply Int32.toInt_inj.mp
  unfold nI I32
  rw [Int32.toInt_ofNat', Int32.toInt_ofInt]
theorem I32_sub (a b : Int) : I32 a - I32 b = I32 (a - b) := (Int32.ofInt_sub a b).symm
theorem I32_add (a b : Int) : I32 a + I32 b = I32 (a + b) := (Int32.ofInt_add a b).symm
theorem I32_mul (a b : Int) : I32 a * I32 b = I32 (a * b) := (Int32.ofInt_mul a b).symm
theorem L64_I32 (v : Int) : (L64 v).toInt32 = I32 v := Int64.toInt32_ofInt
theorem I32_64 {v : Int} (h : -2147483648 ≤ v) (h2 : v < 2147483648) : (I32 v).toInt64 = L64 v := by
  rw [i64_self, I32_i h h2]
theorem I32_rem {a : Int} {p : Nat} (h : -2147483648 < a) (h2 : a < 2147483648) (h0 : 0 < p) (hp : p < 2147483648) : I32 a - I32 a / nI p * nI p = I32 (a.tmod p) := by
  have hd : I32 a / nI p = I32 (a.tdiv p) := by
    apply Int32.toInt_inj.mp
    have hg : nI p ≠ -1 := fun z => by
      have := congrArg Int32.toInt z
      rw [nI_toInt (by omega)] at this
      have e : (-1 : Int32).toInt = -1 := by decide
      omega
    have hb : (a.tdiv p).natAbs ≤ a.natAbs := Int.natAbs_tdiv_le_natAbs a p
    rw [Int32.toInt_div_of_ne_right _ _ hg, I32_i (by omega) h2, nI_toInt (by omega), I32_i (by omega) (by omega)]
  rw [hd, nI_I32, I32_mul, I32_sub]
  congr 1
  have := Int.tmod_add_mul_tdiv a p
  rw [Int.mul_comm] at this
  omega
theorem L64_rem' {a : Int} {p : Nat} (h : -9223372036854775808 < a) (h2 : a < 9223372036854775808) (h0 : 0 < p) (hp : p < 2147483648) : L64 a - L64 a / L64 p * L64 p = L64 (a.tmod p) := by
  rw [L64_div h h2 (by omega) (by omega), L64_mul, L64_sub]
  congr 1
  have := Int.tmod_add_mul_tdiv a p
  rw [Int.mul_comm] at this
  omega
theorem xor_sign (a : Int32) {p : Nat} (hp : p < 2147483648) : 0 ≤ (a ^^^ nI p) ↔ 0 ≤ a.toInt := by
  have h0 : ∀ x : Int32, 0 ≤ x ↔ x.toBitVec.msb = false := by
    intro x
    rw [Int32.le_iff_toInt_le, show (0 : Int32).toInt = 0 by decide, BitVec.msb_eq_toInt]
    show 0 ≤ x.toInt ↔ decide (x.toInt < 0) = false
    rw [decide_eq_false_iff_not]
    omega
  have hn : (nI p).toBitVec.msb = false := (h0 _).mp (nI_pos' (by omega))
  rw [h0, Int32.toBitVec_xor, BitVec.msb_xor, hn, Bool.xor_false, ← h0, Int32.le_iff_toInt_le, show (0 : Int32).toInt = 0 by decide]
theorem tmod_emod {a : Int} {p : Nat} (h0 : 0 < p) : a.tmod p = if 0 ≤ a ∨ a.tmod p = 0 then a % p else a % p - p := by
  by_cases h : 0 ≤ a
  · rw [if_pos (Or.inl h), Int.tmod_eq_emod_of_nonneg h]
  · by_cases h2 : a.tmod p = 0
    · rw [if_pos (Or.inr h2), h2]
      have := Int.dvd_of_tmod_eq_zero h2
      exact (Int.emod_eq_zero_of_dvd this).symm
    · rw [if_neg (by omega), Int.tmod_eq_emod]
      have hnd : ¬ (p : Int) ∣ a := fun z => h2 (Int.tmod_eq_zero_of_dvd z)
      rw [if_neg (by intro z; rcases z with z | z <;> omega)]
      simp
/-- the remainder that is not below 0 -/
def fm (a : Int) (p : Nat) : Nat := (a % p).toNat
theorem fm_lt (a : Int) {p : Nat} (h : 0 < p) : fm a p < p := by
  unfold fm
  have := Int.emod_lt_of_pos a (show (0 : Int) < p by omega)
  omega
theorem fm_c (a : Int) {p : Nat} (h : 0 < p) : ((fm a p : Nat) : Int) = a % p := by
  unfold fm
  have := Int.emod_nonneg a (show (p : Int) ≠ 0 by omega)
  omega
theorem fm_nat (a p : Nat) : fm a p = a % p := by
  unfold fm
  omega
section GNUM
variable {d : Nat} {σ : St} {Q : Option AV → St → Prop}
theorem sp_floorMod {a : Int} {p : Nat} (h1 : -2147483648 < a) (h2 : a < 2147483648) (h0 : 0 < p) (hp : p < 2147483648) (h : Q (some (aI (nI (fm a p)))) σ) : Cl lay1 (d + 1) M_Jm_floorMod [aI (I32 a), aI (nI p)] σ Q := by
  have hlt := fm_lt a h0
  have hc := fm_c a h0
  have tm := tmod_emod (a := a) h0
  refine bk_Jm_floorMod_0 _ _ ?_
  rw [I32_rem h1 h2 h0 hp, xor_sign _ hp, I32_i (by omega) h2]
  have z0 : I32 (a.tmod p) = 0 ↔ a.tmod p = 0 := by
    have hb : (a.tmod p).natAbs < 2147483648 := by
      by_cases q : 0 ≤ a ∨ a.tmod p = 0
      · rw [if_pos q] at tm; omega
      · rw [if_neg q] at tm; omega
    rw [← Int32.toInt_inj, I32_i (by omega) (by omega)]
    exact Iff.rfl
  rw [z0]
  refine ⟨nI_ne0 h0 (by omega), fun c => ?_, fun c => ⟨fun c2 => ?_, fun c2 => ?_⟩⟩
  · rw [if_pos (Or.inl c)] at tm
    rw [tm, ← hc, ← nI_I32]
    exact h
  · rw [if_pos (Or.inr c2)] at tm
    rw [tm, ← hc, ← nI_I32]
    exact h
  · rw [if_neg (by omega)] at tm
    rw [tm, ← hc, nI_I32 p, I32_add, Int.sub_add_cancel, ← nI_I32]
    exact h
theorem sp_by {a : Int} {p : Nat} (h1 : -9223372036854775808 < a) (h2 : a < 9223372036854775808) (h0 : 0 < p) (hp : p < 2147483648) (h : Q (some (aI (nI (fm a p)))) σ) : Cl lay1 (d + 1) M_R_by [aJ (L64 a), aI (nI p)] σ Q := by
  have hlt := fm_lt a h0
  have hc := fm_c a h0
  have tm := tmod_emod (a := a) h0
  have e : (nI p).toInt64 = L64 p := by rw [i64_self, nI_toInt (by omega)]
  refine bk_R_by_0 _ _ ?_
  have hb : (a.tmod p).natAbs < 2147483648 := by
    by_cases q : 0 ≤ a ∨ a.tmod p = 0
    · rw [if_pos q] at tm; omega
    · rw [if_neg q] at tm; omega
  rw [e, L64_rem' h1 h2 h0 hp, L64_0, cmpL_ge (by omega) (by omega) (by omega) (by omega), L64_add, L64_I32, L64_I32]
  have n0 : ¬ L64 (p : Int) = L64 0 := by
    rw [L64_inj (by omega) (by omega) (by omega) (by omega)]; omega
  refine ⟨n0, fun c => ⟨n0, ?_⟩, fun c => ⟨n0, ?_⟩⟩
  · have : a.tmod p = a % p := by
      by_cases q : 0 ≤ a ∨ a.tmod p = 0
      · rw [if_pos q] at tm; exact tm
      · rw [if_neg q] at tm; omega
    rw [this, ← hc, ← nI_I32]
    exact h
  · have : a.tmod p = a % p - p := by
      by_cases q : 0 ≤ a ∨ a.tmod p = 0
      · rw [if_pos q] at tm; omega
      · rw [if_neg q] at tm; exact tm
    rw [this, Int.sub_add_cancel, ← hc, ← nI_I32]
    exact h
end GNUM
/-! primes -/
def prmL : List Nat := [3, 5, 7, 11, 13, 17, 19, 23, 29, 31]
theorem prm_b {n : Nat} (h : n ∈ prmL) : 3 ≤ n ∧ n ≤ 31 := by
  have : ∀ n ∈ prmL, 3 ≤ n ∧ n ≤ 31 := by decide
  exact this n h
def isP (x : Int32) : Prop := ∃ n, n ∈ prmL ∧ x = nI n
def PRM (σ : St) : Prop := ∀ k, k < 10 → gI σ 2 k = nI (prmL.getD k 0)
def prmOK (n : Nat) : Bool := prmL.contains n
theorem prm_no' : ∀ n, n < 32 → ∀ k, k < 7 → (3 ≤ n ∧ n < k * k ∧ ∀ j, j < k → 2 ≤ j → n % j ≠ 0) → prmOK n = true := by decide +kernel
theorem prm_no (n : Nat) (h : n < 32) (h3 : 3 ≤ n) (k : Nat) (hk : k < 7) (h1 : n < k * k) (h2 : ∀ j, j < k → 2 ≤ j → n % j ≠ 0) : n ∈ prmL := List.contains_iff_mem.mp (prm_no' n h k hk ⟨h3, h1, h2⟩)
theorem prm_bad' : ∀ n, n < 32 → ∀ k, k < 7 → (3 ≤ n ∧ 2 ≤ k ∧ k * k ≤ n ∧ n % k = 0) → prmOK n = false := by decide +kernel
theorem prm_bad (n : Nat) (h : n < 32) (h3 : 3 ≤ n) (k : Nat) (hk : k < 7) (h1 : 2 ≤ k) (h2 : k * k ≤ n) (h4 : n % k = 0) : n ∉ prmL := fun z => by
  have := prm_bad' n h k hk ⟨h3, h1, h2, h4⟩
  rw [show prmOK n = true from List.contains_iff_mem.mpr z] at this
  cases this
theorem prm_inv : ∀ p ∈ prmL, ∀ b, b < p → b ≠ 0 → ∃ t, t < p ∧ b * t % p = 1 := by decide +kernel
section PRIME
variable {d : Nat} {σ : St} {Q : Option AV → St → Prop}
theorem sp_C_isPrime_loop {x : Int32} (hln : LN σ) (hp : PRM σ) (hy : isP x → Q (some (aI 1)) σ) (hn : ¬ isP x → Q (some (aI 0)) σ) : ∀ (m k : Nat), k + m = 10 → (∀ j, j < k → x ≠ nI (prmL.getD j 0)) → Wp lay1 rtOf (Cl lay1 d) k_C_isPrime 2 Q (2, [aI x, aI (nI k)], [], σ) := by
  have e2 : Int32.ofNat (gN σ 2) = nI 10 := by rw [hln.at 2 10 (by decide)]; rfl
  intro m
  induction m with
  | zero =>
    intro k hk hs
    refine bk_C_isPrime_2 _ _ ⟨fun _ => ⟨b01, hn ?_⟩, fun c => absurd ?_ c⟩
    · rintro ⟨n, hmem, rfl⟩
      obtain ⟨j, hj, rfl⟩ := List.getElem_of_mem hmem
      have hj10 : j < 10 := hj
      refine hs j (by omega) ?_
      rw [List.getD_eq_getElem?_getD, List.getElem?_eq_getElem hj]
      rfl
    · rw [e2, nI_leI (by omega) (by omega)]; omega
  | succ m ih =>
    intro k hk hs
    refine bk_C_isPrime_2 _ _ ⟨fun c => absurd c ?_, fun _ => ⟨by rw [hln.at 2 10 (by decide)]; exact inb_nI (by omega) (by omega), fun c => ⟨b11, hy ?_⟩, fun c => ?_⟩⟩
    · rw [e2, nI_leI (by omega) (by omega)]; omega
    · rw [ix_nI (by omega), hp k (by omega)] at c
      refine ⟨prmL.getD k 0, ?_, c.symm⟩
      have hk10 : k < prmL.length := by show k < 10; omega
      rw [List.getD_eq_getElem?_getD, List.getElem?_eq_getElem hk10]
      exact List.getElem_mem hk10
    · rw [ix_nI (by omega), hp k (by omega)] at c
      rw [nI_1]
      refine ih (k + 1) (by omega) (fun j hj => ?_)
      by_cases e : j = k
      · rw [e]; exact fun z => c z.symm
      · exact hs j (by omega)
theorem sp_C_isPrime {x : Int32} (hln : LN σ) (hp : PRM σ) (hy : isP x → Q (some (aI 1)) σ) (hn : ¬ isP x → Q (some (aI 0)) σ) : Cl lay1 (d + 1) M_C_isPrime [aI x] σ Q :=
  bk_C_isPrime_0 _ (sp_C_isPrime_loop hln hp hy hn 10 0 (by omega) (fun j hj => absurd hj (by omega)))
theorem sp_R_isPrime_loop {n : Nat} (h3 : 3 ≤ n) (h31 : n ≤ 31) (hy : isP (nI n) → Q (some (aI 1)) σ) (hn : ¬ isP (nI n) → Q (some (aI 0)) σ) : ∀ (m k : Nat), k + m = 6 → 2 ≤ k → (∀ j, j < k → 2 ≤ j → n % j ≠ 0) → Wp lay1 rtOf (Cl lay1 d) k_R_isPrime 2 Q (14, [aI (nI n), aI 1, aI (nI k)], [], σ) := by
  intro m
  induction m with
  | zero =>
    intro k hk h2 hs
    have e : k = 6 := by omega
    subst e
    refine bk_R_isPrime_14 _ _ _ ⟨fun z => absurd z (by decide), fun _ => ⟨fun _ => ⟨b11, hy ⟨n, prm_no n (by omega) h3 6 (by omega) (by omega) hs, rfl⟩⟩, fun c => absurd ?_ c⟩⟩
    rw [pk_mul, nI_ltI (by omega) (by omega)]; omega
  | succ m ih =>
    intro k hk h2 hs
    have hkk : k * k ≤ 36 := Nat.mul_le_mul (show k ≤ 6 by omega) (show k ≤ 6 by omega)
    refine bk_R_isPrime_14 _ _ _ ⟨fun z => absurd z (by decide), fun _ => ⟨fun c => ⟨b11, hy ⟨n, prm_no n (by omega) h3 k (by omega) ?_ hs, rfl⟩⟩, fun c => ⟨nI_ne0 (by omega) (by omega), fun c2 => ?_, fun c2 => ?_⟩⟩⟩
    · rw [pk_mul, nI_ltI (by omega) (by omega)] at c; omega
    · rw [pk_mul, nI_ltI (by omega) (by omega)] at c
      rw [pk_rem (by omega) (by omega) (by omega), show (0 : Int32) = nI 0 from rfl, nI_eq (by have := Nat.mod_lt n (show 0 < k by omega); omega) (by omega)] at c2
      have hnp := prm_bad n (by omega) h3 k (by omega) h2 (by omega) c2
      refine bk_R_isPrime_14 _ _ _ ⟨fun _ => ⟨b01, hn ?_⟩, fun z => absurd rfl z⟩
      rintro ⟨q, hq, e⟩
      have := prm_b hq
      rw [nI_eq (by omega) (by omega)] at e
      rw [e] at hnp
      exact hnp hq
    · rw [pk_rem (by omega) (by omega) (by omega), show (0 : Int32) = nI 0 from rfl, nI_eq (by have := Nat.mod_lt n (show 0 < k by omega); omega) (by omega)] at c2
      rw [nI_1]
      refine ih (k + 1) (by omega) (by omega) (fun j hj hj2 => ?_)
      by_cases e : j = k
      · rw [e]; exact c2
      · exact hs j (by omega) hj2
theorem sp_R_isPrime {x : Int32} (hy : isP x → Q (some (aI 1)) σ) (hn : ¬ isP x → Q (some (aI 0)) σ) : Cl lay1 (d + 2) M_R_isPrime [aI x] σ Q := by
  have h1 := Int32.toInt_lt x
  have h2 := Int32.le_toInt x
  refine bk_R_isPrime_0 _ ?_
  rw [i64_self, show (3 : Int64) = L64 3 by decide, show (31 : Int64) = L64 31 by decide]
  refine sp_in (by omega) (by omega) (by omega) (by omega) (by omega) (by omega) (fun c => ?_) (fun c => ?_)
  · have e := nI_self (x := x) (by omega)
    rw [e] at hy hn
    show Wp lay1 rtOf (Cl lay1 (d + 1)) k_R_isPrime 2 Q (14, [aI x, aI 1, aI (nI 2)], [], σ)
    rw [e]
    exact sp_R_isPrime_loop (by omega) (by omega) hy hn 4 2 (by omega) (by omega) (fun j hj hj2 => absurd hj (by omega))
  · refine bk_R_isPrime_14 _ _ _ ⟨fun _ => ⟨b01, hn ?_⟩, fun z => absurd rfl z⟩
    rintro ⟨n, hmem, rfl⟩
    have := prm_b hmem
    rw [nI_toInt (by omega)] at c
    omega
end PRIME
