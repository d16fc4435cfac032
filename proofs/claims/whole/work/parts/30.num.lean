/-! ===== LAYER 3, A: numbers ===== -/
def L64 (v : Int) : Int64 := Int64.ofInt v
theorem L64_i {v : Int} (h : -9223372036854775808 ≤ v) (h2 : v < 9223372036854775808) : (L64 v).toInt = v := Int64.toInt_ofInt_of_le h h2
theorem L64_mul (a b : Int) : L64 a * L64 b = L64 (a * b) := (Int64.ofInt_mul a b).symm
theorem L64_add (a b : Int) : L64 a + L64 b = L64 (a + b) := (Int64.ofInt_add a b).symm
theorem L64_sub (a b : Int) : L64 a - L64 b = L64 (a - b) := (Int64.ofInt_sub a b).symm
theorem L64_neg (a : Int) : - L64 a = L64 (-a) := (Int64.ofInt_neg a).symm
theorem L64_of (x : Int64) : L64 x.toInt = x := Int64.ofInt_toInt x
theorem L64_inj {a b : Int} (h1 : -9223372036854775808 ≤ a) (h2 : a < 9223372036854775808) (h3 : -9223372036854775808 ≤ b) (h4 : b < 9223372036854775808) : L64 a = L64 b ↔ a = b := by
  rw [← Int64.toInt_inj, L64_i h1 h2, L64_i h3 h4]
theorem L64_0 : (0 : Int64) = L64 0 := rfl
theorem L64_1 : (1 : Int64) = L64 1 := rfl
theorem L64_ne0 {a : Int} (h1 : -9223372036854775808 ≤ a) (h2 : a < 9223372036854775808) (h : a ≠ 0) : ¬ L64 a = 0 := by
  rw [L64_0, L64_inj h1 h2 (by omega) (by omega)]
  exact h
theorem L64_div {a g : Int} (h1 : -9223372036854775808 < a) (h2 : a < 9223372036854775808) (h3 : 0 < g) (h4 : g < 9223372036854775808) : L64 a / L64 g = L64 (a.tdiv g) := by
  apply Int64.toInt_inj.mp
  have hg : L64 g ≠ -1 := fun z => by
    have := congrArg Int64.toInt z
    rw [L64_i (by omega) h4] at this
    have e : (-1 : Int64).toInt = -1 := by decide
    omega
  have hb : (a.tdiv g).natAbs ≤ a.natAbs := Int.natAbs_tdiv_le_natAbs a g
  rw [Int64.toInt_div_of_ne_right _ _ hg, L64_i (by omega) h2, L64_i (by omega) h4, L64_i (by omega) (by omega)]
/-- a remainder as the machine makes it -/
theorem L64_rem {m n : Nat} (hm : m < 9223372036854775808) (hn : n < 9223372036854775808) (h : 0 < n) : L64 m - L64 m / L64 n * L64 n = L64 (m % n : Nat) := by
  rw [L64_div (by omega) (by omega) (by omega) (by omega), L64_mul, L64_sub]
  congr 1
  rw [Int.tdiv_eq_ediv_of_nonneg (by omega)]
  have := Int.emod_add_mul_ediv (m : Int) n
  rw [Int.mul_comm] at this
  push_cast
  omega
theorem cmpL_eq {a b : Int} (h1 : -9223372036854775808 ≤ a) (h2 : a < 9223372036854775808) (h3 : -9223372036854775808 ≤ b) (h4 : b < 9223372036854775808) : lg_cmp (L64 a) (L64 b) = 0 ↔ a = b := by rw [lg_cmp_eq, L64_inj h1 h2 h3 h4]
theorem cmpL_le {a b : Int} (h1 : -9223372036854775808 ≤ a) (h2 : a < 9223372036854775808) (h3 : -9223372036854775808 ≤ b) (h4 : b < 9223372036854775808) : lg_cmp (L64 a) (L64 b) ≤ 0 ↔ a ≤ b := by rw [lg_cmp_le, Int64.le_iff_toInt_le, L64_i h1 h2, L64_i h3 h4]
theorem cmpL_ge {a b : Int} (h1 : -9223372036854775808 ≤ a) (h2 : a < 9223372036854775808) (h3 : -9223372036854775808 ≤ b) (h4 : b < 9223372036854775808) : 0 ≤ lg_cmp (L64 a) (L64 b) ↔ b ≤ a := by rw [lg_cmp_ge, Int64.le_iff_toInt_le, L64_i h1 h2, L64_i h3 h4]
theorem cmpL_lt {a b : Int} (h1 : -9223372036854775808 ≤ a) (h2 : a < 9223372036854775808) (h3 : -9223372036854775808 ≤ b) (h4 : b < 9223372036854775808) : lg_cmp (L64 a) (L64 b) < 0 ↔ a < b := by rw [lg_cmp_lt, Int64.lt_iff_toInt_lt, L64_i h1 h2, L64_i h3 h4]
theorem cmpL_gt {a b : Int} (h1 : -9223372036854775808 ≤ a) (h2 : a < 9223372036854775808) (h3 : -9223372036854775808 ≤ b) (h4 : b < 9223372036854775808) : 0 < lg_cmp (L64 a) (L64 b) ↔ b < a := by rw [lg_cmp_gt, Int64.lt_iff_toInt_lt, L64_i h1 h2, L64_i h3 h4]
theorem b01 : ((0 : Int32) = 0 ∨ (0 : Int32) = 1) := Or.inl rfl
theorem b11 : ((1 : Int32) = 0 ∨ (1 : Int32) = 1) := Or.inr rfl
section NUM
variable {d : Nat} {σ : St} {Q : Option AV → St → Prop}
theorem sp_abs {a : Int} (h1 : -9223372036854775808 < a) (h2 : a < 9223372036854775808) (h : Q (some (aJ (L64 a.natAbs))) σ) : Cl lay1 (d + 1) M_Jm_abs [aJ (L64 a)] σ Q := by
  refine bk_Jm_abs_0 _ ⟨fun c => ?_, fun c => ?_⟩
  · rw [L64_0, cmpL_ge (by omega) (by omega) (by omega) (by omega)] at c
    rw [show (a.natAbs : Int) = a by omega] at h
    exact h
  · rw [L64_0, cmpL_ge (by omega) (by omega) (by omega) (by omega)] at c
    rw [show (a.natAbs : Int) = -a by omega] at h
    rw [L64_neg]
    exact h
/-- the reference's Euclid -/
theorem sp_common_loop : ∀ (n m : Nat) (u0 u1 u2 u3 u8 u9 : AV), m < 9223372036854775808 → n < 9223372036854775808 → Q (some (aJ (L64 (Nat.gcd m n)))) σ → Wp lay1 rtOf (Cl lay1 d) k_R_common 3 Q (17, [u0, u1, u2, u3, aJ (L64 m), aZ, aJ (L64 n), aZ, u8, u9], [], σ) := by
  intro n
  induction n using Nat.strongRecOn with
  | ind n ih =>
    intro m u0 u1 u2 u3 u8 u9 hm hn h
    refine bk_R_common_17 u0 u1 u2 u3 _ _ u8 u9 ⟨fun c => ?_, fun c => ?_⟩
    · rw [L64_0, cmpL_eq (by omega) (by omega) (by omega) (by omega)] at c
      have : n = 0 := by omega
      subst this
      rw [Nat.gcd_zero_right] at h
      exact h
    · rw [L64_0, cmpL_eq (by omega) (by omega) (by omega) (by omega)] at c
      have hn0 : 0 < n := by omega
      have hlt := Nat.mod_lt m hn0
      refine ⟨L64_ne0 (by omega) (by omega) (by omega), ?_⟩
      rw [L64_rem hm hn hn0]
      refine ih (m % n) hlt n _ _ _ _ _ _ hn (by omega) ?_
      rw [Nat.gcd_comm n (m % n), ← Nat.gcd_rec, Nat.gcd_comm n m]
      exact h
theorem sp_common {a : Int} {b : Nat} (h1 : -9223372036854775808 < a) (h2 : a < 9223372036854775808) (h3 : b < 9223372036854775808) (h : Q (some (aJ (L64 (Nat.gcd a.natAbs b)))) σ) : Cl lay1 (d + 1) M_R_common [aJ (L64 a), aJ (L64 b)] σ Q := by
  refine bk_R_common_0 _ _ ⟨fun c => ?_, fun c => ?_⟩
  · rw [L64_0, cmpL_ge (by omega) (by omega) (by omega) (by omega)] at c
    have e : L64 a = L64 (a.natAbs : Nat) := by rw [show (a.natAbs : Int) = a by omega]
    rw [e]
    exact sp_common_loop b a.natAbs _ _ _ _ _ _ (by omega) h3 h
  · rw [L64_0, cmpL_ge (by omega) (by omega) (by omega) (by omega)] at c
    have e : - L64 a = L64 (a.natAbs : Nat) := by rw [L64_neg, show (a.natAbs : Int) = -a by omega]
    rw [e]
    exact sp_common_loop b a.natAbs _ _ _ _ _ _ (by omega) h3 h
theorem mod_half {n r : Nat} (h0 : 0 < r) (h : r < n) : 2 * (n % r) < n := by
  have h1 := Nat.mod_lt n h0
  have h2 := Nat.mod_add_div n r
  have h3 : 1 ≤ n / r := (Nat.le_div_iff_mul_le h0).mpr (by omega)
  have h4 : r * 1 ≤ r * (n / r) := Nat.mul_le_mul_left r h3
  omega
theorem nI_lt200 {k : Nat} (h : k < 200) : ¬ (200 : Int32) ≤ nI k := by
  rw [Int32.le_iff_toInt_le, nI_toInt (by omega)]
  have : (200 : Int32).toInt = 200 := by decide
  omega
/-- the component's Euclid: two steps halve, so 200 steps are enough -/
theorem sp_cd_loop : ∀ (k n m s : Nat) (u0 u1 u2 u3 u9 u10 : AV), n < 2 ^ k → k ≤ 63 → s + 2 * k < 200 → m < 9223372036854775808 → Q (some (aJ (L64 (Nat.gcd m n)))) σ → Wp lay1 rtOf (Cl lay1 d) k_C_commonDivisor 3 Q (9, [u0, u1, u2, u3, aJ (L64 m), aZ, aJ (L64 n), aZ, aI (nI s), u9, u10], [], σ) := by
  intro k
  induction k with
  | zero =>
    intro n m s u0 u1 u2 u3 u9 u10 hn hk hs hm h
    have : n = 0 := by simpa using hn
    subst this
    rw [Nat.gcd_zero_right] at h
    refine bk_C_commonDivisor_9 u0 u1 u2 u3 _ _ _ u9 u10 ⟨fun c => absurd c (nI_lt200 (by omega)), fun _ => ⟨fun _ => h, fun c => absurd ?_ c⟩⟩
    rw [L64_0]
    exact (cmpL_eq (by omega) (by omega) (by omega) (by omega)).mpr rfl
  | succ k ih =>
    intro n m s u0 u1 u2 u3 u9 u10 hn hk hs hm h
    have h63 : 2 ^ (k + 1) ≤ 2 ^ 63 := Nat.pow_le_pow_right (by decide) hk
    have hn63 : n < 9223372036854775808 := Nat.lt_of_lt_of_le hn h63
    refine bk_C_commonDivisor_9 u0 u1 u2 u3 _ _ _ u9 u10 ⟨fun c => absurd c (nI_lt200 (by omega)), fun _ => ⟨fun c => ?_, fun c => ?_⟩⟩
    · rw [L64_0, cmpL_eq (by omega) (by omega) (by omega) (by omega)] at c
      have : n = 0 := by omega
      subst this
      rw [Nat.gcd_zero_right] at h
      exact h
    · rw [L64_0, cmpL_eq (by omega) (by omega) (by omega) (by omega)] at c
      have hn0 : 0 < n := by omega
      have hlt := Nat.mod_lt m hn0
      refine ⟨L64_ne0 (by omega) (by omega) (by omega), ?_⟩
      rw [L64_rem hm hn63 hn0, nI_1]
      have h' : Q (some (aJ (L64 (Nat.gcd n (m % n))))) σ := by
        rw [Nat.gcd_comm n (m % n), ← Nat.gcd_rec, Nat.gcd_comm n m]
        exact h
      refine bk_C_commonDivisor_9 _ _ _ _ _ _ _ _ _ ⟨fun c => absurd c (nI_lt200 (by omega)), fun _ => ⟨fun c2 => ?_, fun c2 => ?_⟩⟩
      · rw [L64_0, cmpL_eq (by omega) (by omega) (by omega) (by omega)] at c2
        have e : m % n = 0 := by omega
        rw [e, Nat.gcd_zero_right] at h'
        exact h'
      · rw [L64_0, cmpL_eq (by omega) (by omega) (by omega) (by omega)] at c2
        have hr0 : 0 < m % n := by omega
        refine ⟨L64_ne0 (by omega) (by omega) (by omega), ?_⟩
        rw [L64_rem hn63 (by omega) hr0, nI_1]
        have hh := mod_half hr0 hlt
        refine ih (n % (m % n)) (m % n) (s + 1 + 1) _ _ _ _ _ _ (by rw [Nat.pow_succ] at hn; omega) (by omega) (by omega) (by omega) ?_
        rw [Nat.gcd_comm (m % n) (n % (m % n)), ← Nat.gcd_rec, Nat.gcd_comm (m % n) n]
        exact h'
theorem sp_cd {m n : Nat} (hm : m < 9223372036854775808) (hn : n < 9223372036854775808) (h : Q (some (aJ (L64 (Nat.gcd m n)))) σ) : Cl lay1 (d + 1) M_C_commonDivisor [aJ (L64 m), aJ (L64 n)] σ Q :=
  bk_C_commonDivisor_0 _ _ (sp_cd_loop 63 n m 0 _ _ _ _ _ _ hn (by omega) (by omega) hm h)
end NUM
