/-! ===== LAYER 3, H: the constructors ===== -/
def mko (K : St → Nat → St) (t : Nat) (σ : St) (x f : Nat) : St := pR (K (nw σ t (nF t)) (sN σ)) x f (sN σ)
def mka (t : Nat) (n : Int32) (σ : St) (x f : Nat) : St := pR (nw σ t (ix n)) x f (sN σ)
def K_Fr (σ : St) (x : Nat) : St := pL σ x 1 1
def lpF : Nat → St → Nat → Nat → St
  | 0, σ, _, _ => σ
  | n + 1, σ, a, i => lpF n (mko K_Fr 0 σ a i) a (i + 1)
def Kle (K : St → Nat → St) : Prop := ∀ σ x, sN σ ≤ sN (K σ x)
/-- what a constructor is proved to do -/
def Ksp (d M t : Nat) (K : St → Nat → St) : Prop := ∀ (σ : St) (x : Nat) (Q : Option AV → St → Prop), x ≠ 0 → x < sN σ → Q none (K σ x) → Cl lay0 d M [aO t x] σ Q
theorem mko_lt (K : St → Nat → St) (hK : Kle K) (t : Nat) {σ : St} {x : Nat} (y f : Nat) (h : x < sN σ) : x < sN (mko K t σ y f) := Nat.lt_of_lt_of_le (Nat.lt_succ_of_lt h) (hK (nw σ t (nF t)) (sN σ))
theorem mka_lt (t : Nat) (n : Int32) {σ : St} {x : Nat} (y f : Nat) (h : x < sN σ) : x < sN (mka t n σ y f) := Nat.lt_succ_of_lt h
theorem lpF_le : ∀ (n : Nat) (σ : St) (a i : Nat), sN σ ≤ sN (lpF n σ a i)
  | 0, _, _, _ => Nat.le_refl _
  | n + 1, σ, a, i => Nat.le_trans (Nat.le_succ (sN σ)) (lpF_le n (mko K_Fr 0 σ a i) a (i + 1))
theorem le_o (K : St → Nat → St) (hK : Kle K) (t : Nat) {σ : St} {n : Nat} (y f : Nat) (h : n ≤ sN σ) : n ≤ sN (mko K t σ y f) := Nat.le_trans (Nat.le_succ_of_le h) (hK (nw σ t (nF t)) (sN σ))
theorem le_a (t : Nat) (n : Int32) {σ : St} {m : Nat} (y f : Nat) (h : m ≤ sN σ) : m ≤ sN (mka t n σ y f) := Nat.le_succ_of_le h
theorem lt0 {x n : Nat} (h : x < n) : n ≠ 0 := by omega
theorem nwo {K : St → Nat → St} {M t d : Nat} {σ : St} {P : St → Prop} (sp : Ksp d M t K) {x : Nat} (hs : x < sN σ) (h : P (K (nw σ t (nF t)) (sN σ))) : nn (sN σ) (Cl lay0 d M [aO t (sN σ)] (nw σ t (nF t)) (rV P)) := nn_of (lt0 hs) (sp _ _ _ (lt0 hs) (Nat.lt_succ_self _) h)
theorem le_Fr : Kle K_Fr := fun _ _ => Nat.le_refl _
theorem k0_Fr (d : Nat) : Ksp (d + 1) M_Fr_init 0 K_Fr := by
  intro σ x Q hx hl h
  obtain ⟨x, rfl⟩ : ∃ y, x = y + 1 := ⟨x - 1, by omega⟩
  exact bk0_Fr_init_0 x (bk0_Fr_init_9 _ h)
def K_Te (σ : St) (x : Nat) : St := mka 18 1500 σ x 0
theorem le_Te : Kle K_Te := fun σ x => (le_a _ _ _ _ (Nat.le_refl _))
theorem k0_Te (d : Nat) : Ksp (d + 1) M_Te_init 10 K_Te := by
  intro σ x Q hx hl h
  obtain ⟨x, rfl⟩ : ∃ y, x = y + 1 := ⟨x - 1, by omega⟩
  refine bk0_Te_init_0 x ⟨by decide, Or.inl rfl, ?_⟩
  exact bk0_Te_init_13 _ h
def K_Ro (σ : St) (x : Nat) : St := mka 20 80 σ x 0
theorem le_Ro : Kle K_Ro := fun σ x => (le_a _ _ _ _ (Nat.le_refl _))
theorem k0_Ro (d : Nat) : Ksp (d + 1) M_Ro_init 9 K_Ro := by
  intro σ x Q hx hl h
  obtain ⟨x, rfl⟩ : ∃ y, x = y + 1 := ⟨x - 1, by omega⟩
  refine bk0_Ro_init_0 x ⟨by decide, Or.inl rfl, ?_⟩
  exact bk0_Ro_init_13 _ h
def K_Mo (σ : St) (x : Nat) : St := mko K_Fr 0 (mko K_Fr 0 σ x 0) x 1
theorem le_Mo : Kle K_Mo := fun σ x => (le_o K_Fr le_Fr _ _ _ (le_o K_Fr le_Fr _ _ _ (Nat.le_refl _)))
theorem k0_Mo (d : Nat) : Ksp (d + 2) M_Mo_init 3 K_Mo := by
  intro σ x Q hx hl h
  obtain ⟨x, rfl⟩ : ∃ y, x = y + 1 := ⟨x - 1, by omega⟩
  refine bk0_Mo_init_0 x (nwo (k0_Fr d) hl ⟨Or.inl rfl, ?_⟩)
  refine bk0_Mo_init_15 x (nwo (k0_Fr d) (mko_lt K_Fr le_Fr 0 _ 0 hl) ⟨Or.inl rfl, ?_⟩)
  exact bk0_Mo_init_26 _ h
def K_Rk (σ : St) (x : Nat) : St := mko K_Fr 0 σ x 1
theorem le_Rk : Kle K_Rk := fun σ x => (le_o K_Fr le_Fr _ _ _ (Nat.le_refl _))
theorem k0_Rk (d : Nat) : Ksp (d + 2) M_Rk_init 7 K_Rk := by
  intro σ x Q hx hl h
  obtain ⟨x, rfl⟩ : ∃ y, x = y + 1 := ⟨x - 1, by omega⟩
  refine bk0_Rk_init_0 x (nwo (k0_Fr d) hl ⟨Or.inl rfl, ?_⟩)
  exact bk0_Rk_init_15 _ h
def K_Re (σ : St) (x : Nat) : St := mka 16 6 (mka 16 6 (mko K_Ro 9 (mko K_Te 10 σ x 0) x 1) x 2) x 3
theorem le_Re : Kle K_Re := fun σ x => (le_a _ _ _ _ (le_a _ _ _ _ (le_o K_Ro le_Ro _ _ _ (le_o K_Te le_Te _ _ _ (Nat.le_refl _)))))
theorem k0_Re (d : Nat) : Ksp (d + 2) M_Re_init 6 K_Re := by
  intro σ x Q hx hl h
  obtain ⟨x, rfl⟩ : ∃ y, x = y + 1 := ⟨x - 1, by omega⟩
  refine bk0_Re_init_0 x (nwo (k0_Te d) hl ⟨Or.inl rfl, ?_⟩)
  refine bk0_Re_init_15 x (nwo (k0_Ro d) (mko_lt K_Te le_Te 10 _ 0 hl) ⟨Or.inl rfl, ?_⟩)
  refine bk0_Re_init_26 x ⟨by decide, Or.inl rfl, ?_⟩
  refine bk0_Re_init_34 x ⟨by decide, Or.inl rfl, ?_⟩
  exact bk0_Re_init_42 _ h
def K_La (σ : St) (x : Nat) : St := mka 17 961 (mka 16 80 (pI σ x 0 (3)) x 1) x 2
theorem le_La : Kle K_La := fun σ x => (le_a _ _ _ _ (le_a _ _ _ _ (Nat.le_refl _)))
theorem k0_La (d : Nat) : Ksp (d + 1) M_La_init 1 K_La := by
  intro σ x Q hx hl h
  obtain ⟨x, rfl⟩ : ∃ y, x = y + 1 := ⟨x - 1, by omega⟩
  refine bk0_La_init_0 x ?_
  refine bk0_La_init_9 x ⟨by decide, Or.inl rfl, ?_⟩
  refine bk0_La_init_17 x ⟨by decide, Or.inl rfl, ?_⟩
  exact bk0_La_init_26 _ h
/-- an array of fractions that is being filled -/
def LpI (σ : St) (x f a N : Nat) : Prop := gR σ x f = a ∧ a ≠ 0 ∧ a < sN σ ∧ x < sN σ ∧ a ≠ x ∧ gN σ a = N
theorem LpI.mko {σ : St} {x f a N : Nat} (h : LpI σ x f a N) {b : Nat} (i : Nat) (hb : b ≠ x) : LpI (mko K_Fr 0 σ b i) x f a N := by
  obtain ⟨h1, h2, h3, h4, h5, h6⟩ := h
  refine ⟨?_, h2, Nat.lt_succ_of_lt h3, Nat.lt_succ_of_lt h4, h5, ?_⟩
  · show (if x = b ∧ f = i then sN σ else if x = sN σ then 0 else gR σ x f) = a
    rw [if_neg (by omega), if_neg (by omega)]
    exact h1
  · show (if a = sN σ then nF 0 else gN σ a) = N
    rw [if_neg (by omega)]
    exact h6
theorem LpI.lp {x f a N : Nat} : ∀ (n : Nat) {σ : St} {b : Nat} (i : Nat), LpI σ x f a N → b ≠ x → LpI (lpF n σ b i) x f a N
  | 0, _, _, _, h, _ => h
  | n + 1, _, _, i, h, hb => LpI.lp n (i + 1) (h.mko i hb) hb
theorem LpI.new {σ : St} {x : Nat} (n : Int32) (f : Nat) (h : x < sN σ) : LpI (mka 21 n σ x f) x f (sN σ) (ix n) := by
  refine ⟨?_, by omega, Nat.lt_succ_self _, Nat.lt_succ_of_lt h, by omega, ?_⟩
  · show (if x = x ∧ f = f then sN σ else _) = sN σ
    rw [if_pos ⟨rfl, rfl⟩]
  · show (if sN σ = sN σ then ix n else _) = ix n
    rw [if_pos rfl]
theorem LpI.mka {σ : St} {x f a N : Nat} (h : LpI σ x f a N) (t : Nat) (n : Int32) {g : Nat} (hg : f ≠ g) : LpI (mka t n σ x g) x f a N := by
  obtain ⟨h1, h2, h3, h4, h5, h6⟩ := h
  refine ⟨?_, h2, Nat.lt_succ_of_lt h3, Nat.lt_succ_of_lt h4, h5, ?_⟩
  · show (if x = x ∧ f = g then sN σ else if x = sN σ then 0 else gR σ x f) = a
    rw [if_neg (by omega), if_neg (by omega)]
    exact h1
  · show (if a = sN σ then ix n else gN σ a) = N
    rw [if_neg (by omega)]
    exact h6
theorem nI12 : ∀ i, i < 12 → ¬ (12 : Int32) ≤ nI i := by decide
theorem nI4 : ∀ i, i < 4 → ¬ (4 : Int32) ≤ nI i := by decide
theorem nI13 : ∀ i, i < 13 → nI i + 1 = nI (i + 1) := by decide
theorem lp_Ri {d x a : Nat} {Q : Option AV → St → Prop} : ∀ (n i : Nat) (σ : St), i + n = 12 → LpI σ (x + 1) 2 a 12 → (Wp lay0 rtOf (Cl lay0 (d + 1)) k_Ri_init 0 Q (56, [aO 8 (x + 1), aI (nI 12)], [], mka 16 12 (lpF n σ a i) (x + 1) 3)) → Wp lay0 rtOf (Cl lay0 (d + 1)) k_Ri_init 0 Q (23, [aO 8 (x + 1), aI (nI i)], [], σ)
  | 0, i, σ, hi, hI, h => by
    obtain rfl : i = 12 := by omega
    exact bk0_Ri_init_23 x _ ⟨fun _ => ⟨by decide, Or.inl rfl, h⟩, fun c => absurd (by decide) c⟩
  | n + 1, i, σ, hi, hI, h => by
    refine bk0_Ri_init_23 x _ ⟨fun c => absurd c (nI12 i (by omega)), fun _ => nwo (k0_Fr d) hI.2.2.1 ?_⟩
    have e1 := hI.1
    have e2 := (hI.mko i hI.2.2.2.2.1).2.2.2.2.2
    rw [e1, ix_nI (by omega)]
    refine nn_of hI.2.1 ⟨⟨?_, Or.inl rfl⟩, bk0_Ri_init_42 x _ ?_⟩
    · have e3 : gN (K_Fr (nw σ 0 (nF 0)) (sN σ)) a = 12 := e2
      rw [e3]
      exact inb_nI (by omega) (by omega)
    · rw [nI13 i (by omega)]
      exact lp_Ri n (i + 1) _ (by omega) (hI.mko i hI.2.2.2.2.1) h
theorem lp_Op1 {d x a : Nat} {Q : Option AV → St → Prop} : ∀ (n i : Nat) (σ : St), i + n = 12 → LpI σ (x + 1) 11 a 12 → (Wp lay0 rtOf (Cl lay0 (d + 1)) k_Op_init 0 Q (171, [aO 4 (x + 1), aI 0], [], lpF n σ a i)) → Wp lay0 rtOf (Cl lay0 (d + 1)) k_Op_init 0 Q (144, [aO 4 (x + 1), aI (nI i)], [], σ)
  | 0, i, σ, hi, hI, h => by
    obtain rfl : i = 12 := by omega
    exact bk0_Op_init_144 x _ ⟨fun _ => h, fun c => absurd (by decide) c⟩
  | n + 1, i, σ, hi, hI, h => by
    refine bk0_Op_init_144 x _ ⟨fun c => absurd c (nI12 i (by omega)), fun _ => nwo (k0_Fr d) hI.2.2.1 ?_⟩
    have e1 := hI.1
    have e2 := (hI.mko i hI.2.2.2.2.1).2.2.2.2.2
    rw [e1, ix_nI (by omega)]
    refine nn_of hI.2.1 ⟨⟨?_, Or.inl rfl⟩, bk0_Op_init_163 x _ ?_⟩
    · have e3 : gN (K_Fr (nw σ 0 (nF 0)) (sN σ)) a = 12 := e2
      rw [e3]
      exact inb_nI (by omega) (by omega)
    · rw [nI13 i (by omega)]
      exact lp_Op1 n (i + 1) _ (by omega) (hI.mko i hI.2.2.2.2.1) h
theorem lp_Op2 {d x a : Nat} {Q : Option AV → St → Prop} : ∀ (n i : Nat) (σ : St), i + n = 4 → LpI σ (x + 1) 12 a 4 → (Q none (lpF n σ a i)) → Wp lay0 rtOf (Cl lay0 (d + 1)) k_Op_init 0 Q (171, [aO 4 (x + 1), aI (nI i)], [], σ)
  | 0, i, σ, hi, hI, h => by
    obtain rfl : i = 4 := by omega
    exact bk0_Op_init_171 x _ ⟨fun _ => h, fun c => absurd (by decide) c⟩
  | n + 1, i, σ, hi, hI, h => by
    refine bk0_Op_init_171 x _ ⟨fun c => absurd c (nI4 i (by omega)), fun _ => nwo (k0_Fr d) hI.2.2.1 ?_⟩
    have e1 := hI.1
    have e2 := (hI.mko i hI.2.2.2.2.1).2.2.2.2.2
    rw [e1, ix_nI (by omega)]
    refine nn_of hI.2.1 ⟨⟨?_, Or.inl rfl⟩, bk0_Op_init_189 x _ ?_⟩
    · have e3 : gN (K_Fr (nw σ 0 (nF 0)) (sN σ)) a = 4 := e2
      rw [e3]
      exact inb_nI (by omega) (by omega)
    · rw [nI13 i (by omega)]
      exact lp_Op2 n (i + 1) _ (by omega) (hI.mko i hI.2.2.2.2.1) h
def K_Ri0 (σ : St) (x : Nat) : St := mka 21 12 (mka 20 0 σ x 0) x 2
def K_Ri1 (σ : St) (x : Nat) : St := lpF 12 (K_Ri0 σ x) (sN σ + 1) 0
def K_Ri (σ : St) (x : Nat) : St := mka 16 80 (mka 16 12 (mka 16 12 (K_Ri1 σ x) x 3) x 4) x 5
theorem le_Ri : Kle K_Ri := fun σ x => le_a _ _ _ _ (le_a _ _ _ _ (le_a _ _ _ _ (Nat.le_trans (le_a _ _ _ _ (le_a _ _ _ _ (Nat.le_refl _))) (lpF_le 12 (K_Ri0 σ x) (sN σ + 1) 0))))
theorem k0_Ri (d : Nat) : Ksp (d + 2) M_Ri_init 8 K_Ri := by
  intro σ x Q hx hl h
  obtain ⟨x, rfl⟩ : ∃ y, x = y + 1 := ⟨x - 1, by omega⟩
  refine bk0_Ri_init_0 x ⟨by decide, Or.inl rfl, ?_⟩
  refine bk0_Ri_init_12 x _ ⟨by decide, Or.inl rfl, ?_⟩
  refine bk0_Ri_init_21 x _ ?_
  refine lp_Ri (d := d) (x := x) (a := sN σ + 1) 12 0 (K_Ri0 σ (x + 1)) rfl (LpI.new 12 2 (mka_lt 20 0 _ 0 hl)) ?_
  refine bk0_Ri_init_56 x _ ⟨by decide, Or.inl rfl, ?_⟩
  refine bk0_Ri_init_64 x _ ⟨by decide, Or.inl rfl, ?_⟩
  exact bk0_Ri_init_72 _ _ h
def K_Op0 (σ : St) (x : Nat) : St := mko K_Fr 0 (mko K_Fr 0 (mko K_Fr 0 (mko K_Fr 0 (mko K_Fr 0 (mko K_Fr 0 (mko K_Mo 3 (mko K_Mo 3 (mko K_Mo 3 (mko K_Mo 3 (mko K_Rk 7 σ x 0) x 1) x 2) x 3) x 4) x 5) x 6) x 7) x 8) x 9) x 10
def K_Op1 (σ : St) (x : Nat) : St := mka 21 4 (mka 21 12 (K_Op0 σ x) x 11) x 12
def K_Op2 (σ : St) (x : Nat) : St := lpF 12 (K_Op1 σ x) (sN (K_Op0 σ x)) 0
def K_Op (σ : St) (x : Nat) : St := lpF 4 (K_Op2 σ x) (sN (K_Op0 σ x) + 1) 0
theorem le_Op0 : Kle K_Op0 := fun σ x => (le_o K_Fr le_Fr _ _ _ (le_o K_Fr le_Fr _ _ _ (le_o K_Fr le_Fr _ _ _ (le_o K_Fr le_Fr _ _ _ (le_o K_Fr le_Fr _ _ _ (le_o K_Fr le_Fr _ _ _ (le_o K_Mo le_Mo _ _ _ (le_o K_Mo le_Mo _ _ _ (le_o K_Mo le_Mo _ _ _ (le_o K_Mo le_Mo _ _ _ (le_o K_Rk le_Rk _ _ _ (Nat.le_refl _))))))))))))
theorem le_Op : Kle K_Op := fun σ x => Nat.le_trans (Nat.le_trans (le_a 21 4 x 12 (le_a 21 12 x 11 (le_Op0 σ x))) (lpF_le 12 (K_Op1 σ x) (sN (K_Op0 σ x)) 0)) (lpF_le 4 (K_Op2 σ x) (sN (K_Op0 σ x) + 1) 0)
theorem k0_Op (d : Nat) : Ksp (d + 3) M_Op_init 4 K_Op := by
  intro σ x Q hx hl h
  obtain ⟨x, rfl⟩ : ∃ y, x = y + 1 := ⟨x - 1, by omega⟩
  refine bk0_Op_init_0 x (nwo (k0_Rk d) hl ⟨Or.inl rfl, ?_⟩)
  refine bk0_Op_init_15 x _ (nwo (k0_Mo d) (mko_lt K_Rk le_Rk 7 _ 0 hl) ⟨Or.inl rfl, ?_⟩)
  refine bk0_Op_init_26 x _ (nwo (k0_Mo d) (mko_lt K_Mo le_Mo 3 _ 1 (mko_lt K_Rk le_Rk 7 _ 0 hl)) ⟨Or.inl rfl, ?_⟩)
  refine bk0_Op_init_37 x _ (nwo (k0_Mo d) (mko_lt K_Mo le_Mo 3 _ 2 (mko_lt K_Mo le_Mo 3 _ 1 (mko_lt K_Rk le_Rk 7 _ 0 hl))) ⟨Or.inl rfl, ?_⟩)
  refine bk0_Op_init_48 x _ (nwo (k0_Mo d) (mko_lt K_Mo le_Mo 3 _ 3 (mko_lt K_Mo le_Mo 3 _ 2 (mko_lt K_Mo le_Mo 3 _ 1 (mko_lt K_Rk le_Rk 7 _ 0 hl)))) ⟨Or.inl rfl, ?_⟩)
  refine bk0_Op_init_59 x _ (nwo (k0_Fr (d + 1)) (mko_lt K_Mo le_Mo 3 _ 4 (mko_lt K_Mo le_Mo 3 _ 3 (mko_lt K_Mo le_Mo 3 _ 2 (mko_lt K_Mo le_Mo 3 _ 1 (mko_lt K_Rk le_Rk 7 _ 0 hl))))) ⟨Or.inl rfl, ?_⟩)
  refine bk0_Op_init_70 x _ (nwo (k0_Fr (d + 1)) (mko_lt K_Fr le_Fr 0 _ 5 (mko_lt K_Mo le_Mo 3 _ 4 (mko_lt K_Mo le_Mo 3 _ 3 (mko_lt K_Mo le_Mo 3 _ 2 (mko_lt K_Mo le_Mo 3 _ 1 (mko_lt K_Rk le_Rk 7 _ 0 hl)))))) ⟨Or.inl rfl, ?_⟩)
  refine bk0_Op_init_81 x _ (nwo (k0_Fr (d + 1)) (mko_lt K_Fr le_Fr 0 _ 6 (mko_lt K_Fr le_Fr 0 _ 5 (mko_lt K_Mo le_Mo 3 _ 4 (mko_lt K_Mo le_Mo 3 _ 3 (mko_lt K_Mo le_Mo 3 _ 2 (mko_lt K_Mo le_Mo 3 _ 1 (mko_lt K_Rk le_Rk 7 _ 0 hl))))))) ⟨Or.inl rfl, ?_⟩)
  refine bk0_Op_init_92 x _ (nwo (k0_Fr (d + 1)) (mko_lt K_Fr le_Fr 0 _ 7 (mko_lt K_Fr le_Fr 0 _ 6 (mko_lt K_Fr le_Fr 0 _ 5 (mko_lt K_Mo le_Mo 3 _ 4 (mko_lt K_Mo le_Mo 3 _ 3 (mko_lt K_Mo le_Mo 3 _ 2 (mko_lt K_Mo le_Mo 3 _ 1 (mko_lt K_Rk le_Rk 7 _ 0 hl)))))))) ⟨Or.inl rfl, ?_⟩)
  refine bk0_Op_init_103 x _ (nwo (k0_Fr (d + 1)) (mko_lt K_Fr le_Fr 0 _ 8 (mko_lt K_Fr le_Fr 0 _ 7 (mko_lt K_Fr le_Fr 0 _ 6 (mko_lt K_Fr le_Fr 0 _ 5 (mko_lt K_Mo le_Mo 3 _ 4 (mko_lt K_Mo le_Mo 3 _ 3 (mko_lt K_Mo le_Mo 3 _ 2 (mko_lt K_Mo le_Mo 3 _ 1 (mko_lt K_Rk le_Rk 7 _ 0 hl))))))))) ⟨Or.inl rfl, ?_⟩)
  refine bk0_Op_init_114 x _ (nwo (k0_Fr (d + 1)) (mko_lt K_Fr le_Fr 0 _ 9 (mko_lt K_Fr le_Fr 0 _ 8 (mko_lt K_Fr le_Fr 0 _ 7 (mko_lt K_Fr le_Fr 0 _ 6 (mko_lt K_Fr le_Fr 0 _ 5 (mko_lt K_Mo le_Mo 3 _ 4 (mko_lt K_Mo le_Mo 3 _ 3 (mko_lt K_Mo le_Mo 3 _ 2 (mko_lt K_Mo le_Mo 3 _ 1 (mko_lt K_Rk le_Rk 7 _ 0 hl)))))))))) ⟨Or.inl rfl, ?_⟩)
  refine bk0_Op_init_125 x _ ⟨by decide, Or.inl rfl, ?_⟩
  refine bk0_Op_init_134 x _ ⟨by decide, Or.inl rfl, ?_⟩
  refine bk0_Op_init_142 x _ ?_
  have hl0 : x + 1 < sN (K_Op0 σ (x + 1)) := Nat.lt_of_lt_of_le hl (le_Op0 _ _)
  have i1 : LpI (K_Op1 σ (x + 1)) (x + 1) 11 (sN (K_Op0 σ (x + 1))) 12 := (LpI.new 12 11 hl0).mka 21 4 (by decide)
  have i2 : LpI (K_Op1 σ (x + 1)) (x + 1) 12 (sN (K_Op0 σ (x + 1)) + 1) 4 := LpI.new 4 12 (mka_lt 21 12 _ 11 hl0)
  refine lp_Op1 (d := d + 1) (x := x) (a := sN (K_Op0 σ (x + 1))) 12 0 (K_Op1 σ (x + 1)) rfl i1 ?_
  exact lp_Op2 (d := d + 1) (x := x) (a := sN (K_Op0 σ (x + 1)) + 1) 4 0 (K_Op2 σ (x + 1)) rfl (i2.lp 12 0 i1.2.2.2.2.1) h
def K_C (σ : St) (x : Nat) : St := pI (mko K_La 1 (mko K_Op 4 (mko K_Ri 8 (mko K_Re 6 σ x 0) x 1) x 2) x 3) x 4 (-4)
theorem le_C : Kle K_C := fun σ x => (le_o K_La le_La 1 x 3 (le_o K_Op le_Op _ _ _ (le_o K_Ri le_Ri _ _ _ (le_o K_Re le_Re _ _ _ (Nat.le_refl _)))))
theorem k0_C (d : Nat) : Ksp (d + 4) M_C_init 11 K_C := by
  intro σ x Q hx hl h
  obtain ⟨x, rfl⟩ : ∃ y, x = y + 1 := ⟨x - 1, by omega⟩
  refine bk0_C_init_0 x (nwo (k0_Re (d + 1)) hl ⟨Or.inl rfl, ?_⟩)
  refine bk0_C_init_15 x (nwo (k0_Ri (d + 1)) (mko_lt K_Re le_Re 6 _ 0 hl) ⟨Or.inl rfl, ?_⟩)
  refine bk0_C_init_26 x (nwo (k0_Op d) (mko_lt K_Ri le_Ri 8 _ 1 (mko_lt K_Re le_Re 6 _ 0 hl)) ⟨Or.inl rfl, ?_⟩)
  refine bk0_C_init_37 x (nwo (k0_La (d + 2)) (mko_lt K_Op le_Op 4 _ 2 (mko_lt K_Ri le_Ri 8 _ 1 (mko_lt K_Re le_Re 6 _ 0 hl))) ⟨Or.inl rfl, ?_⟩)
  refine bk0_C_init_48 x ?_
  exact bk0_C_init_54 _ h
def K_R (σ : St) (x : Nat) : St := pI (mka 17 961 (mka 16 80 (mka 19 8 (mka 19 8 (mka 19 8 (mka 19 12 (mka 19 12 (mka 19 80 (mka 19 80 (mka 16 80 (mka 17 8 (mka 16 8 (mka 16 8 (mka 19 82 (mka 19 82 (mka 16 82 (mka 19 32000 (mka 19 32000 (mka 16 32000 (mka 16 400 (mka 16 400 (mka 19 400 (mka 16 1500 σ x 0) x 9) x 10) x 11) x 13) x 14) x 15) x 20) x 21) x 22) x 24) x 25) x 26) x 32) x 33) x 34) x 35) x 36) x 40) x 41) x 43) x 48) x 49) x 7 (-4)
theorem k0_R (d : Nat) : Ksp (d + 1) M_R_init 12 K_R := by
  intro σ x Q hx hl h
  obtain ⟨x, rfl⟩ : ∃ y, x = y + 1 := ⟨x - 1, by omega⟩
  refine bk0_R_init_0 x ⟨by decide, Or.inl rfl, ?_⟩
  refine bk0_R_init_13 x ⟨by decide, Or.inl rfl, ?_⟩
  refine bk0_R_init_22 x ⟨by decide, Or.inl rfl, ?_⟩
  refine bk0_R_init_31 x ⟨by decide, Or.inl rfl, ?_⟩
  refine bk0_R_init_40 x ⟨by decide, Or.inl rfl, ?_⟩
  refine bk0_R_init_49 x ⟨by decide, Or.inl rfl, ?_⟩
  refine bk0_R_init_58 x ⟨by decide, Or.inl rfl, ?_⟩
  refine bk0_R_init_67 x ⟨by decide, Or.inl rfl, ?_⟩
  refine bk0_R_init_75 x ⟨by decide, Or.inl rfl, ?_⟩
  refine bk0_R_init_83 x ⟨by decide, Or.inl rfl, ?_⟩
  refine bk0_R_init_91 x ⟨by decide, Or.inl rfl, ?_⟩
  refine bk0_R_init_99 x ⟨by decide, Or.inl rfl, ?_⟩
  refine bk0_R_init_107 x ⟨by decide, Or.inl rfl, ?_⟩
  refine bk0_R_init_115 x ⟨by decide, Or.inl rfl, ?_⟩
  refine bk0_R_init_123 x ⟨by decide, Or.inl rfl, ?_⟩
  refine bk0_R_init_131 x ⟨by decide, Or.inl rfl, ?_⟩
  refine bk0_R_init_139 x ⟨by decide, Or.inl rfl, ?_⟩
  refine bk0_R_init_147 x ⟨by decide, Or.inl rfl, ?_⟩
  refine bk0_R_init_155 x ⟨by decide, Or.inl rfl, ?_⟩
  refine bk0_R_init_163 x ⟨by decide, Or.inl rfl, ?_⟩
  refine bk0_R_init_171 x ⟨by decide, Or.inl rfl, ?_⟩
  refine bk0_R_init_179 x ⟨by decide, Or.inl rfl, ?_⟩
  refine bk0_R_init_187 x ⟨by decide, Or.inl rfl, ?_⟩
  refine bk0_R_init_196 x ?_
  exact bk0_R_init_202 _ h
