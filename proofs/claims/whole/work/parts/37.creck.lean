/-! ===== LAYER 3, C: the component: beginTable, reckonTable ===== -/
def ctab (σ : St) (t : Tb) : Prop := isM σ 33 t.1 ∧ isM σ 36 t.2
def rtP (r : Rg) (i n : Nat) (σ τ : St) : Prop := ar [33, 34, 36, 37, 31] σ τ ∧ ∃ t, ctab τ t ∧ tOK t ∧ (tgo r i n = some t ∧ gI τ 30 0 = 0 ∨ tgo r i n = none ∧ gI τ 30 0 = 1)
theorem low1 (a : Int) : (a.tdiv (Nat.gcd a.natAbs 1 : Nat), 1 / Nat.gcd a.natAbs 1) = (a, 1) := by
  rw [Nat.gcd_one_right]
  simp
section CRECK
variable {d : Nat} {σ : St} {Q : Option AV → St → Prop}
/-- a whole number is put -/
theorem sp_put1 {t : Nat} {a : Int} (ha : a.natAbs ≤ 4000000000000000000) (h : Q none (stF σ (t + 1) (a, 1))) : Cl lay1 (d + 2) M_Fr_put [aO 0 (t + 1), aJ (L64 a), aJ (1 : Int64)] σ Q := by
  refine sp_put (b := 1) ha (by omega) (by omega) ?_
  rw [low1]
  exact h
theorem sp_moput {c z : Nat} {a b : Int} (hc0 : ∀ σ, ldR lay1 σ (c + 1) 0 = z + 1) (hc1 : ∀ σ, ldR lay1 σ (c + 1) 1 = z + 2) (ha : a.natAbs ≤ 4000000000000000000) (hb : b.natAbs ≤ 4000000000000000000) (h : ∀ τ, ar [z + 1, z + 2] σ τ → isM τ (z + 1) ((a, 1), (b, 1)) → gI τ 30 0 = gI σ 30 0 → Q none τ) : Cl lay1 (d + 3) M_Mo_put [aO 3 (c + 1), aJ (L64 a), aJ (L64 b)] σ Q := by
  refine bk_Mo_put_0 _ _ _ (nn_of (by rw [hc0]; omega) ?_)
  rw [hc0]
  refine sp_put1 ha (nn_of (by rw [hc1]; omega) ?_)
  rw [hc1]
  refine sp_put1 hb ?_
  refine h _ (((stF_ar _ _ _).mono (by simp)).trans ((stF_ar _ _ _).mono (by simp))) ⟨?_, stF_is _ _ _⟩ rfl
  exact (stF_ar _ _ _).F (by simp) (stF_is _ _ _)
theorem sp_beginTable (h : ∀ τ, ar [33, 34, 36, 37, 31] σ τ → ctab τ (((1, 1), (0, 1)), ((0, 1), (1, 1))) → gI τ 30 0 = 0 → Q none τ) : Cl lay1 (d + 4) M_Op_beginTable [aO 4 29] σ Q := by
  refine bk_Op_beginTable_0 ?_
  refine bk_Rk_begin_0 ⟨b01, ?_⟩
  refine sp_moput (c := 31) (z := 32) (a := 1) (b := 0) (fun _ => rfl) (fun _ => rfl) (by decide) (by decide) (fun τ1 a1 m1 b1 => ?_)
  refine sp_moput (c := 34) (z := 35) (a := 0) (b := 1) (fun _ => rfl) (fun _ => rfl) (by decide) (by decide) (fun τ2 a2 m2 b2 => ?_)
  have a0 : ar [33, 34, 36, 37, 31] σ (pI σ 30 0 0) := ⟨rfl, rfl, rfl, rfl, fun j k q => by rw [gI_pI, if_neg q], fun _ _ _ => rfl⟩
  refine h τ2 ((a0.trans (a1.mono (by simp))).trans (a2.mono (by simp))) ⟨⟨a2.F (by decide) m1.1, a2.F (by decide) m1.2⟩, m2⟩ ?_
  rw [b2, b1, gI_pI, if_pos ⟨rfl, rfl⟩]
theorem sp_reck_loop {r : Rg} {i n : Nat} (hro : rgOK r) (hi : i < r.1) (hn : n ≤ 200) : ∀ (m k : Nat) (u2 : AV) (σ : St) (Q : Option AV → St → Prop), k + m = n → RC σ r → ∀ t, ctab σ t → tOK t → (tgo r i k = some t ∧ gI σ 30 0 = 0 ∨ tgo r i k = none ∧ gI σ 30 0 = 1) → (∀ τ, rtP r i n σ τ → Q none τ) → Wp lay1 rtOf (Cl lay1 (d + 5)) k_Op_reckonTable 0 Q (10, [aO 4 29, aO 8 11, u2, aI (nI n), aI (nI ((i + k) % r.1)), aI (nI k)], [], σ) := by
  have h80 := hro.1
  have h0 : 0 < r.1 := by omega
  intro m
  induction m with
  | zero =>
    intro k u2 σ Q hk hr t ht hto hs h
    refine bk_Op_reckonTable_10 _ _ _ _ ⟨fun _ => h σ ⟨ar.rf _ _, t, ht, hto, ?_⟩, fun c => absurd ((nI_leI (by omega) (by omega)).mpr (by omega)) c⟩
    rw [show n = k by omega]
    exact hs
  | succ m ih =>
    intro k u2 σ Q hk hr t ht hto hs h
    have hlt : (i + k) % r.1 < r.1 := Nat.mod_lt _ h0
    refine bk_Op_reckonTable_10 _ _ _ _ ⟨fun c => absurd ((nI_leI (by omega) (by omega)).mp c) (by omega), fun _ => ⟨fun c => ?_, fun c => ?_⟩⟩
    · have hs : tgo r i k = some t := by
        rcases hs with ⟨q, -⟩ | ⟨-, q⟩
        · exact q
        · rw [q] at c; exact absurd c (by decide)
      obtain ⟨g1, g2, g3, g4⟩ := id hr
      obtain ⟨p1, p2, p3, p4⟩ := g4 _ hlt
      obtain ⟨hk4, hfo⟩ := hro.2 _ hlt
      refine nn_of g2 ⟨by rw [g3]; exact inb_nI hlt (by omega), ?_⟩
      rw [ix_nI (by omega)]
      refine sp_lead (c := 31) (z := 32) rfl rfl (by omega) (by omega) p1 p2 hk4 p3 p4 hfo ht.1 hto.1 (fun τ1 q1 => ?_)
      obtain ⟨a1, m1, hm1, om1, r1⟩ := q1
      have hr1 : RC τ1 r := a1.RC (by simp) hr
      obtain ⟨g1', g2', g3', g4'⟩ := id hr1
      obtain ⟨p1', p2', p3', p4'⟩ := g4' _ hlt
      refine nn_of g2' ⟨by rw [g3']; exact inb_nI hlt (by omega), ?_⟩
      have ht2 : isM τ1 36 t.2 := ⟨a1.F (by decide) ht.2.1, a1.F (by decide) ht.2.2⟩
      refine sp_lead (c := 34) (z := 35) rfl rfl (by omega) (by omega) p1' p2' hk4 p3' p4' hfo ht2 hto.2 (fun τ2 q2 => ?_)
      obtain ⟨a2, m2, hm2, om2, r2⟩ := q2
      have hr2 : RC τ2 r := a2.RC (by simp) hr1
      have a12 : ar [33, 34, 36, 37, 31] σ τ2 := (a1.mono (by simp)).trans (a2.mono (by simp))
      have hct : ctab τ2 (m1, m2) := ⟨⟨a2.F (by decide) hm1.1, a2.F (by decide) hm1.2⟩, hm2⟩
      have hgo : tgo r i (k + 1) = some (m1, m2) ∧ gI τ2 30 0 = 0 ∨ tgo r i (k + 1) = none ∧ gI τ2 30 0 = 1 := by
        show ((tgo r i k).bind _ = _ ∧ _) ∨ ((tgo r i k).bind _ = _ ∧ _)
        rw [hs]
        show (tstep _ _ t = _ ∧ _) ∨ (tstep _ _ t = _ ∧ _)
        unfold tstep
        rw [c] at r1
        rcases r1 with ⟨r1, b1⟩ | ⟨r1, b1⟩ <;> rcases r2 with ⟨r2, b2⟩ | ⟨r2, b2⟩
        · rw [r1]
          show (Option.map _ _ = _ ∧ _) ∨ _
          rw [r2]
          exact Or.inl ⟨rfl, b2.trans b1⟩
        · rw [r1]
          show _ ∨ (Option.map _ _ = _ ∧ _)
          rw [r2]
          exact Or.inr ⟨rfl, b2⟩
        · rw [r1]; exact Or.inr ⟨rfl, b2.trans b1⟩
        · rw [r1]; exact Or.inr ⟨rfl, b2⟩
      have kk : ∀ a : Nat, a = (i + (k + 1)) % r.1 → Wp lay1 rtOf (Cl lay1 (d + 5)) k_Op_reckonTable 0 Q (10, [aO 4 29, aO 8 11, u2, aI (nI n), aI (nI a), aI (nI k + 1)], [], τ2) := by
        intro a ha
        rw [ha, nI_1]
        refine ih (k + 1) u2 τ2 Q (by omega) hr2 (m1, m2) hct ⟨om1, om2⟩ hgo (fun υ hυ => h υ ?_)
        obtain ⟨b1, b2⟩ := hυ
        exact ⟨a12.trans b1, b2⟩
      have hmod : (i + (k + 1)) % r.1 = if (i + k) % r.1 + 1 = r.1 then 0 else (i + k) % r.1 + 1 := by
        have e := Nat.mod_add_div (i + k) r.1
        by_cases hq : (i + k) % r.1 + 1 = r.1
        · rw [if_pos hq, show i + (k + 1) = r.1 * ((i + k) / r.1 + 1) by rw [Nat.mul_add]; omega]
          exact Nat.mul_mod_right _ _
        · rw [if_neg hq, show i + (k + 1) = ((i + k) % r.1 + 1) + r.1 * ((i + k) / r.1) by omega, Nat.add_mul_mod_self_left]
          exact Nat.mod_eq_of_lt (by omega)
      refine ⟨fun c3 => ?_, fun c3 => ?_⟩
      · rw [hr2.1, nI_1, nI_leI (by omega) (by omega)] at c3
        exact kk 0 (by rw [hmod, if_pos (by omega)])
      · rw [hr2.1, nI_1, nI_leI (by omega) (by omega)] at c3
        rw [nI_1 ((i + k) % r.1)]
        exact kk _ (by rw [hmod, if_neg (by omega)])
    · refine h σ ⟨ar.rf _ _, t, ht, hto, ?_⟩
      rcases hs with ⟨-, q⟩ | ⟨q, q2⟩
      · exact absurd q c
      · exact Or.inr ⟨tgo_none q n (by omega), q2⟩
theorem sp_reckonTable {r : Rg} {i n : Nat} (hr : RC σ r) (hro : rgOK r) (hi : i < r.1) (hn : n ≤ 200) (h : ∀ τ, rtP r i n σ τ → Q none τ) : Cl lay1 (d + 6) M_Op_reckonTable [aO 4 29, aO 8 11, aI (nI i), aI (nI n)] σ Q := by
  refine bk_Op_reckonTable_0 _ _ ?_
  refine sp_beginTable (fun τ a t b => ?_)
  have hr1 : RC τ r := a.RC (by simp) hr
  have key := sp_reck_loop (d := d) hro hi hn n 0 (aI (nI i)) τ Q (by omega) hr1 _ t ⟨⟨ini_ok 0, ini_ok 2⟩, ⟨ini_ok 1, ini_ok 3⟩⟩ (Or.inl ⟨rfl, b⟩) (fun υ hυ => h υ (by
    obtain ⟨b1, b2⟩ := hυ
    exact ⟨a.trans b1, b2⟩))
  rw [show (i + 0) % r.1 = i from Nat.mod_eq_of_lt (by omega)] at key
  exact key
end CRECK
