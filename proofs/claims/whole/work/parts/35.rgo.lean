/-! ===== LAYER 3, C: the reference: starts, goes ===== -/
def ini (k : Nat) : Int × Nat := if k = 0 ∨ k = 3 then (1, 1) else (0, 1)
theorem ini_ok (k : Nat) : fOK (ini k) := by
  unfold ini
  split <;> exact ⟨by decide, by decide, by decide⟩
section RGO
variable {d : Nat}
theorem sp_starts_loop : ∀ (m k : Nat) (σ : St) (Q : Option AV → St → Prop), k + m = 8 → LN σ → (∀ i, i < k → tF σ i (ini i)) → (∀ τ, tR [0, 1, 2, 3, 4, 5, 6, 7] σ τ → (∀ i, i < 8 → tF τ i (ini i)) → gI τ 71 39 = gI σ 71 39 → Q none τ) → Wp lay1 rtOf (Cl lay1 (d + 1)) k_R_starts 0 Q (7, [aO 12 71, aI (nI k)], [], σ) := by
  intro m
  induction m with
  | zero =>
    intro k σ Q hk hln hs h
    refine bk_R_starts_7 _ ⟨fun _ => h σ (tR.rf _ _) (fun i hi => hs i (by omega)) rfl, fun c => absurd ?_ c⟩
    rw [show k = 8 by omega]
    decide
  | succ m ih =>
    intro k σ Q hk hln hs h
    have hk8 : k < 8 := by omega
    have key : Cl lay1 (d + 1) M_R_lays [aO 12 71, aI (nI k), aJ (L64 (ini k).1), aJ (L64 (ini k).2)] σ (rV fun σ1 => Wp lay1 rtOf (Cl lay1 (d + 1)) k_R_starts 0 Q (7, [aO 12 71, aI (nI k + (1 : Int32))], [], σ1)) := by
      refine sp_lays hln hk8 (fun τ a f b => ?_)
      show Wp lay1 rtOf (Cl lay1 (d + 1)) k_R_starts 0 Q (7, [aO 12 71, aI (nI k + 1)], [], τ)
      rw [nI_1]
      have a' : tR [0, 1, 2, 3, 4, 5, 6, 7] σ τ := a.mono (by
        intro j hj
        rw [List.mem_singleton.mp hj]
        rcases (show k = 0 ∨ k = 1 ∨ k = 2 ∨ k = 3 ∨ k = 4 ∨ k = 5 ∨ k = 6 ∨ k = 7 by omega) with rfl | rfl | rfl | rfl | rfl | rfl | rfl | rfl <;> decide)
      refine ih (k + 1) τ Q (by omega) (hln.of a.2.2.1) (fun i hi => ?_) (fun υ b1 b2 b3 => h υ (a'.trans b1) b2 (b3.trans b))
      by_cases e : i = k
      · rw [e]; exact f
      · exact a.F (by simpa using e) (hs i (by omega))
    refine bk_R_starts_7 _ ⟨fun c => absurd c ?_, fun _ => ⟨fun c => ?_, fun c => ⟨fun c2 => ?_, fun c2 => ?_⟩⟩⟩
    · rw [show (8 : Int32) = nI 8 from rfl, nI_leI (by omega) (by omega)]
      omega
    · rw [show (0 : Int32) = nI 0 from rfl, nI_eq (by omega) (by omega)] at c
      subst c
      exact key
    · rw [show (3 : Int32) = nI 3 from rfl, nI_eq (by omega) (by omega)] at c2
      subst c2
      exact key
    · rw [show (0 : Int32) = nI 0 from rfl, nI_eq (by omega) (by omega)] at c
      rw [show (3 : Int32) = nI 3 from rfl, nI_eq (by omega) (by omega)] at c2
      have e : ini k = (0, 1) := by unfold ini; rw [if_neg (by omega)]
      rw [e] at key
      exact key
/-- all that starts lays -/
theorem sp_starts {σ : St} {Q : Option AV → St → Prop} (hln : LN σ) (h : ∀ τ, tR [0, 1, 2, 3, 4, 5, 6, 7] σ τ → (∀ i, i < 8 → tF τ i (ini i)) → gI τ 71 39 = 0 → Q none τ) : Cl lay1 (d + 2) M_R_starts [aO 12 71] σ Q := by
  refine bk_R_starts_0 ⟨b01, ?_⟩
  refine sp_starts_loop 8 0 (pI σ 71 39 0) Q (by omega) hln (fun i hi => absurd hi (by omega)) (fun τ a f b => h τ ?_ f ?_)
  · refine tR.trans (τ := pI σ 71 39 0) ⟨rfl, rfl, rfl, rfl, fun j k q => by rw [gI_pI, if_neg q], fun _ _ _ _ => rfl⟩ a
  · rw [b, gI_pI, if_pos ⟨rfl, rfl⟩]
theorem sp_goes {σ : St} {Q : Option AV → St → Prop} {r : Rg} {i n : Nat} (hln : LN σ) (hr : RR σ r) (hro : rgOK r) (hi : i < 100) (hn : n ≤ 200) (h0 : 0 < r.1) (h : ∀ τ, goP r i n σ τ → Q none τ) : Cl lay1 (d + 6) M_R_goes [aO 12 71, aI (nI i), aI (nI n)] σ Q := by
  refine bk_R_goes_0 _ _ ?_
  refine sp_starts hln (fun τ a f b => ?_)
  refine sp_goes_loop hro hi hn h0 n 0 τ Q (by omega) (hln.of a.2.2.1) (a.R hr) (((1, 1), (0, 1)), ((0, 1), (1, 1))) ⟨f 0 (by omega), f 1 (by omega), f 2 (by omega), f 3 (by omega)⟩ ⟨⟨ini_ok 0, ini_ok 2⟩, ⟨ini_ok 1, ini_ok 3⟩⟩ (Or.inl ⟨rfl, b⟩) (fun υ hυ => h υ ?_)
  obtain ⟨b1, b2⟩ := hυ
  exact ⟨a.trans b1, b2⟩
end RGO
