/-! ===== LAYER 3, H: the state in which the loop begins ===== -/
/-- two states that differ in the script alone -/
def eqv (L : Nat) (σ τ : St) : Prop := sN σ = sN τ ∧ sS σ = sS τ ∧ (∀ a b, gR σ a b = gR τ a b) ∧ (∀ a, a ≠ 1 → gN σ a = gN τ a) ∧ (∀ a b, a ≠ 1 → gI σ a b = gI τ a b) ∧ gN σ 1 = L ∧ 1 < sN σ
theorem eqv.nw {L : Nat} {σ τ : St} (h : eqv L σ τ) (t n : Nat) : eqv L (nw σ t n) (nw τ t n) := by
  obtain ⟨h1, h2, h3, h4, h5, h6, h7⟩ := h
  refine ⟨congrArg (· + 1) h1, congrArg (· + n) h2, fun a b => ?_, fun a ha => ?_, fun a b ha => ?_, ?_, Nat.lt_succ_of_lt h7⟩
  · show (if a = sN σ then 0 else gR σ a b) = (if a = sN τ then 0 else gR τ a b)
    rw [h1, h3]
  · show (if a = sN σ then n else gN σ a) = (if a = sN τ then n else gN τ a)
    rw [h1, h4 a ha]
  · show (if a = sN σ then 0 else gI σ a b) = (if a = sN τ then 0 else gI τ a b)
    rw [h1, h5 a b ha]
  · show (if 1 = sN σ then n else gN σ 1) = L
    rw [if_neg (by omega)]
    exact h6
theorem eqv.pR {L : Nat} {σ τ : St} (h : eqv L σ τ) (x f : Nat) {v w : Nat} (hv : v = w) : eqv L (pR σ x f v) (pR τ x f w) := by
  obtain ⟨h1, h2, h3, h4, h5, h6, h7⟩ := h
  refine ⟨h1, h2, fun a b => ?_, h4, h5, h6, h7⟩
  show (if a = x ∧ b = f then v else gR σ a b) = (if a = x ∧ b = f then w else gR τ a b)
  rw [hv, h3]
theorem eqv.pI {L : Nat} {σ τ : St} (h : eqv L σ τ) (x f : Nat) (v : Int32) : eqv L (pI σ x f v) (pI τ x f v) := by
  obtain ⟨h1, h2, h3, h4, h5, h6, h7⟩ := h
  refine ⟨h1, h2, h3, h4, fun a b ha => ?_, h6, h7⟩
  show (if a = x ∧ b = f then v else gI σ a b) = (if a = x ∧ b = f then v else gI τ a b)
  rw [h5 a b ha]
theorem eqv.pL {L : Nat} {σ τ : St} (h : eqv L σ τ) (x f : Nat) (v : Int64) : eqv L (pL σ x f v) (pL τ x f v) := h
def Keq (K : St → Nat → St) : Prop := ∀ L σ τ x, eqv L σ τ → eqv L (K σ x) (K τ x)
theorem eqvA {L : Nat} {σ τ : St} (t : Nat) (n : Int32) (x f : Nat) (h : eqv L σ τ) : eqv L (mka t n σ x f) (mka t n τ x f) := (h.nw t (ix n)).pR x f h.1
theorem eqvO {K : St → Nat → St} (hK : Keq K) {L : Nat} {σ τ : St} (t x f : Nat) (h : eqv L σ τ) : eqv L (mko K t σ x f) (mko K t τ x f) := by
  have h1 := hK L _ _ (sN σ) (h.nw t (nF t))
  have e := h.1
  unfold mko
  rw [← e]
  exact h1.pR x f rfl
theorem q_Fr : Keq K_Fr := fun _ _ _ x h => h.pL x 1 1
theorem eqvP {L : Nat} : ∀ (n : Nat) {σ τ : St} (a i : Nat), eqv L σ τ → eqv L (lpF n σ a i) (lpF n τ a i)
  | 0, _, _, _, _, h => h
  | n + 1, _, _, a, i, h => eqvP n a (i + 1) (eqvO q_Fr 0 a i h)
theorem q_Te : Keq K_Te := fun _ _ _ x h => eqvA 18 1500 x 0 h
theorem q_Ro : Keq K_Ro := fun _ _ _ x h => eqvA 20 80 x 0 h
theorem q_Mo : Keq K_Mo := fun _ _ _ x h => eqvO q_Fr 0 x 1 (eqvO q_Fr 0 x 0 h)
theorem q_Rk : Keq K_Rk := fun _ _ _ x h => eqvO q_Fr 0 x 1 h
theorem q_Re : Keq K_Re := fun _ _ _ x h => eqvA 16 6 x 3 (eqvA 16 6 x 2 (eqvO q_Ro 9 x 1 (eqvO q_Te 10 x 0 h)))
theorem q_La : Keq K_La := fun _ _ _ x h => eqvA 17 961 x 2 (eqvA 16 80 x 1 (h.pI x 0 3))
theorem q_Ri : Keq K_Ri := fun L σ τ x h => eqvA 16 80 x 5 (eqvA 16 12 x 4 (eqvA 16 12 x 3 (by
  have h0 : eqv L (K_Ri0 σ x) (K_Ri0 τ x) := eqvA 21 12 x 2 (eqvA 20 0 x 0 h)
  unfold K_Ri1
  rw [← h.1]
  exact eqvP 12 (sN σ + 1) 0 h0)))
theorem q_Op : Keq K_Op := fun L σ τ x h => by
  have h0 : eqv L (K_Op0 σ x) (K_Op0 τ x) := eqvO q_Fr 0 x 10 (eqvO q_Fr 0 x 9 (eqvO q_Fr 0 x 8 (eqvO q_Fr 0 x 7 (eqvO q_Fr 0 x 6 (eqvO q_Fr 0 x 5 (eqvO q_Mo 3 x 4 (eqvO q_Mo 3 x 3 (eqvO q_Mo 3 x 2 (eqvO q_Mo 3 x 1 (eqvO q_Rk 7 x 0 h))))))))))
  have h1 : eqv L (K_Op1 σ x) (K_Op1 τ x) := eqvA 21 4 x 12 (eqvA 21 12 x 11 h0)
  unfold K_Op K_Op2
  rw [← h0.1]
  exact eqvP 4 _ 0 (eqvP 12 _ 0 h1)
theorem q_C : Keq K_C := fun _ _ _ x h => (eqvO q_La 1 x 3 (eqvO q_Op 4 x 2 (eqvO q_Ri 8 x 1 (eqvO q_Re 6 x 0 h)))).pI x 4 (-4)
theorem q_R : Keq K_R := fun _ _ _ x h => (eqvA 17 961 x 49 (eqvA 16 80 x 48 (eqvA 19 8 x 43 (eqvA 19 8 x 41 (eqvA 19 8 x 40 (eqvA 19 12 x 36 (eqvA 19 12 x 35 (eqvA 19 80 x 34 (eqvA 19 80 x 33 (eqvA 16 80 x 32 (eqvA 17 8 x 26 (eqvA 16 8 x 25 (eqvA 16 8 x 24 (eqvA 19 82 x 22 (eqvA 19 82 x 21 (eqvA 16 82 x 20 (eqvA 19 32000 x 15 (eqvA 19 32000 x 14 (eqvA 16 32000 x 13 (eqvA 16 400 x 11 (eqvA 16 400 x 10 (eqvA 19 400 x 9 (eqvA 16 1500 x 0 h))))))))))))))))))))))).pI x 7 (-4)
def siC (L : Nat) (xs : Nat → Int32) : St := K_C (nw (st0 L xs) 11 (nF 11)) 3
def siF (L : Nat) (xs : Nat → Int32) : St := K_R (nw (siC L xs) 12 (nF 12)) 71
theorem st0_eqv (L : Nat) (xs : Nat → Int32) : eqv L (st0 L xs) (st0 0 (fun _ => 0)) := by
  refine ⟨rfl, rfl, fun _ _ => rfl, fun a ha => ?_, fun a b ha => ?_, rfl, (show 1 < 3 by decide)⟩
  · show (if a = 1 then L else 10) = (if a = 1 then 0 else 10)
    rw [if_neg ha, if_neg ha]
  · show (if a = 1 then xs b else prm b) = (if a = 1 then 0 else prm b)
    rw [if_neg ha, if_neg ha]
theorem siC_eqv (L : Nat) (xs : Nat → Int32) : eqv L (siC L xs) (siC 0 (fun _ => 0)) := q_C L _ _ 3 ((st0_eqv L xs).nw 11 (nF 11))
theorem siF_eqv (L : Nat) (xs : Nat → Int32) : eqv L (siF L xs) (siF 0 (fun _ => 0)) := q_R L _ _ 71 ((siC_eqv L xs).nw 12 (nF 12))
def zrL : List (Nat × Nat) := [(5, 1), (11, 1), (11, 6), (11, 7), (29, 13), (68, 3), (71, 1), (71, 29), (71, 30), (71, 31), (71, 42), (71, 44)]
theorem f_sC : sN (siC 0 (fun _ => 0)) = 71 := by decide +kernel
theorem f_sN : sN (siF 0 (fun _ => 0)) = 95 := by decide +kernel
theorem f_sS : sS (siF 0 (fun _ => 0)) = 103269 := by decide +kernel
theorem f_ly : layL.all (fun q => Nat.beq (gR (siF 0 (fun _ => 0)) q.1 q.2.1) q.2.2) = true := by decide +kernel
theorem f_ln : lnL.all (fun q => Nat.beq (gN (siF 0 (fun _ => 0)) q.1) q.2 && !Nat.beq q.1 1) = true := by decide +kernel
theorem f_l1 : ∀ k, k < 4 → gR (siF 0 (fun _ => 0)) 51 k = 64 + k := by decide +kernel
theorem f_l2 : ∀ k, k < 12 → gR (siF 0 (fun _ => 0)) 50 k = 52 + k := by decide +kernel
theorem f_l3 : ∀ k, k < 12 → gR (siF 0 (fun _ => 0)) 13 k = 14 + k := by decide +kernel
theorem f_pr : ∀ k, k < 10 → gI (siF 0 (fun _ => 0)) 2 k = nI (prmL.getD k 0) := by decide +kernel
theorem f_zr : ∀ q ∈ zrL, gI (siF 0 (fun _ => 0)) q.1 q.2 = 0 := by decide +kernel
theorem f_m1 : gI (siF 0 (fun _ => 0)) 3 4 = -4 := by decide +kernel
theorem f_m2 : gI (siF 0 (fun _ => 0)) 71 7 = -4 := by decide +kernel
theorem f_r0 : gR (siF 0 (fun _ => 0)) 11 0 = 12 := by decide +kernel
theorem f_n0 : gN (siF 0 (fun _ => 0)) 12 = 0 := by decide +kernel
theorem lkl_mem : ∀ (l : List (Nat × Nat × Nat)) (j k : Nat), lkl l j k ≠ 0 → (j, k, lkl l j k) ∈ l
  | [], _, _, h => absurd rfl h
  | q :: r, j, k, h => by
    unfold lkl at h ⊢
    cases hb : (Nat.beq q.1 j && Nat.beq q.2.1 k) with
    | false =>
      rw [hb] at h
      exact List.mem_cons_of_mem _ (lkl_mem r j k h)
    | true =>
      obtain ⟨e1, e2⟩ := (Bool.and_eq_true_iff).mp hb
      have e1 := Nat.eq_of_beq_eq_true e1
      have e2 := Nat.eq_of_beq_eq_true e2
      have : (j, k, q.2.2) = q := by rw [← e1, ← e2]
      show (j, k, q.2.2) ∈ q :: r
      rw [this]
      exact List.mem_cons_self
theorem siF_ly (L : Nat) (xs : Nat → Int32) : LyOK lay1 95 (siF L xs) := by
  have E := siF_eqv L xs
  refine ⟨by rw [E.1, f_sN]; exact Nat.le_refl _, fun j k h => ?_⟩
  rw [E.2.2.1]
  exact Nat.eq_of_beq_eq_true (List.all_eq_true.mp f_ly _ (lkl_mem layL j k h))
def sa0 : Sa := ((0, fun _ => 0), (0, fun _ => 0, fun _ => (0, 1)), fun _ => (0, 1), [], none, -4)
theorem siF_iv (L : Nat) (xs : Nat → Int32) : Iv L (siF L xs) 0 sa0 := by
  obtain ⟨e1, e2, e3, e4, e5, e6, e7⟩ := siF_eqv L xs
  have z : ∀ j k, (j, k) ∈ zrL → j ≠ 1 → gI (siF L xs) j k = 0 := fun j k h hj => (e5 j k hj).trans (f_zr _ h)
  have r0 : gR (siF L xs) 11 0 = 12 := (e3 11 0).trans f_r0
  refine ⟨fun q hq => ?_, by rw [e1, f_sN]; exact Nat.le_refl _, ⟨⟨Nat.zero_le _, fun i hi => absurd hi (Nat.not_lt_zero i)⟩, ⟨Nat.zero_le _, fun i hi => absurd hi (Nat.not_lt_zero i)⟩, ⟨Nat.zero_le _, Nat.zero_le _⟩, fun i hi => absurd hi (Nat.not_lt_zero i), Nat.zero_le _⟩, ?_, ?_, e6, by rw [e1, f_sN]; exact Nat.le_refl _, by rw [e2, f_sS]; exact Nat.le_refl _⟩
  · have h := List.all_eq_true.mp f_ln q hq
    obtain ⟨a1, a2⟩ := (Bool.and_eq_true_iff).mp h
    have hq1 : q.1 ≠ 1 := fun x => by rw [x] at a2; cases a2
    rw [e4 _ hq1]
    exact Nat.eq_of_beq_eq_true a1
  · refine ⟨⟨fun k hk => (e3 _ _).trans (f_l1 k hk), fun k hk => (e3 _ _).trans (f_l2 k hk), fun k hk => (e3 _ _).trans (f_l3 k hk)⟩, fun k hk => (e5 2 k (by omega)).trans (f_pr k hk), ⟨z 5 1 (by decide) (by decide), fun i hi => absurd hi (Nat.not_lt_zero i)⟩, ⟨z 11 1 (by decide) (by decide), by rw [r0]; decide, by rw [r0, e4 12 (by decide)]; exact f_n0, fun i hi => absurd hi (Nat.not_lt_zero i)⟩, ⟨by rw [r0, e1, f_sN]; decide, Or.inr rfl, fun i hi => absurd hi (Nat.not_lt_zero i)⟩, ⟨z 11 6 (by decide) (by decide), z 11 7 (by decide) (by decide), fun i hi => absurd hi (Nat.not_lt_zero i)⟩, fun k hk => absurd hk (Nat.not_lt_zero k), ⟨z 29 13 (by decide) (by decide), fun k f hk => by cases hk⟩, z 68 3 (by decide) (by decide), (e5 3 4 (by decide)).trans f_m1⟩
  · exact ⟨⟨z 71 1 (by decide) (by decide), fun i hi => absurd hi (Nat.not_lt_zero i)⟩, ⟨z 71 29 (by decide) (by decide), fun i hi => absurd hi (Nat.not_lt_zero i)⟩, z 71 30 (by decide) (by decide), z 71 31 (by decide) (by decide), fun k hk => absurd hk (Nat.not_lt_zero k), ⟨z 71 42 (by decide) (by decide), fun k f hk => by cases hk⟩, z 71 44 (by decide) (by decide), (e5 71 7 (by decide)).trans f_m2⟩
/-- the law in the abstract machine -/
theorem law_pure {L : Nat} (hL : L ≤ 2560) (xs : Nat → Int32) : run lay0 rtOf (Cl lay0 9) k_Law_law 2 QL [18, 627] (fun q => LyOK lay1 95 q.2.2.2 ∧ Wp lay1 rtOf (Cl lay1 9) k_Law_law 2 QL q) 600 (0, [aO 22 1, aZ, aZ, aZ], [], st0 L xs) := by
  have fin : LyOK lay1 95 (siF L xs) ∧ Wp lay1 rtOf (Cl lay1 9) k_Law_law 2 QL (18, [aO 22 1, aO 11 3, aO 12 71, aI 0], [], siF L xs) := ⟨siF_ly L xs, law_loop hL 600 0 _ _ rfl (siF_iv L xs)⟩
  have n1 : sN (siC L xs) = 71 := (siC_eqv L xs).1.trans f_sC
  have g : nn (sN (st0 L xs)) (Cl lay0 9 M_C_init [aO 11 (sN (st0 L xs))] (nw (st0 L xs) 11 (nF 11)) (rV fun σ1 => nn (sN σ1) (Cl lay0 9 M_R_init [aO 12 (sN σ1)] (nw σ1 12 (nF 12)) (rV fun σ2 => LyOK lay1 95 σ2 ∧ Wp lay1 rtOf (Cl lay1 9) k_Law_law 2 QL (18, [aO 22 1, aO 11 (sN (st0 L xs)), aO 12 (sN σ1), aI 0], [], σ2))))) := by
    refine nwo (K := K_C) (x := 0) (k0_C 5) (show 0 < 3 by decide) ?_
    show nn (sN (siC L xs)) (Cl lay0 9 M_R_init [aO 12 (sN (siC L xs))] (nw (siC L xs) 12 (nF 12)) (rV fun σ2 => LyOK lay1 95 σ2 ∧ Wp lay1 rtOf (Cl lay1 9) k_Law_law 2 QL (18, [aO 22 1, aO 11 3, aO 12 (sN (siC L xs)), aI 0], [], σ2)))
    refine nwo (K := K_R) (x := 0) (k0_R 8) (by rw [n1]; decide) ?_
    rw [n1]
    exact fin
  exact g
