set_option maxRecDepth 50000 in
theorem bk_La_forget_0 {d : Nat} {σ : St} {Q : Option AV → St → Prop} 
    (h : ((0 : Int32) = 0 ∨ (0 : Int32) = 1) ∧ (Q none (pI σ 68 3 (0 : Int32)))) : Cl lay1 (d + 1) M_La_forget [aO 1 68] σ Q :=
  run_intro (Cl_mono lay1 d) [] 600 h
set_option maxRecDepth 50000 in
theorem bk_La_prepare_0 {d : Nat} {σ : St} {Q : Option AV → St → Prop} (x2 : Int32)
    (h : ((2 : Int32) ≤ x2 → Wp lay1 rtOf (Cl lay1 d) k_La_prepare 2 Q (14, [aO 1 68, aO 8 11, aI x2, aI (0 : Int32), aZ, aZ], [], (pI σ 68 0 x2))) ∧ (¬ (2 : Int32) ≤ x2 → ((0 : Int32) = 0 ∨ (0 : Int32) = 1) ∧ Q (some (aI (0 : Int32))) σ)) : Cl lay1 (d + 1) M_La_prepare [aO 1 68, aO 8 11, aI x2] σ Q :=
  run_intro (Cl_mono lay1 d) [14] 600 h
set_option maxRecDepth 50000 in
theorem bk_La_prepare_14 {d : Nat} {σ : St} {Q : Option AV → St → Prop} (x2 : Int32) (x3 : Int32) (u4 : AV) (u5 : AV)
    (h : ((gI σ 11 1) ≤ x3 → ((1 : Int32) = 0 ∨ (1 : Int32) = 1) ∧ Q (some (aI (1 : Int32))) σ) ∧ (¬ (gI σ 11 1) ≤ x3 → nn (gR σ 11 0) (inb x3 (gN σ (gR σ 11 0)) ∧ (nn (gR σ (gR σ 11 0) (ix x3)) (nn (ldR lay1 σ (gR σ (gR σ 11 0) (ix x3)) 1) (Cl lay1 d M_Fr_side [aO 0 (ldR lay1 σ (gR σ (gR σ 11 0) (ix x3)) 1), aI (1 : Int32)] σ (rI fun r2 σ1 => ¬ x2 = 0 ∧ (Cl lay1 d M_La_inverse [aI (r2 - r2 / x2 * x2), aI x2] σ1 (rI fun r4 σ3 => (r4 = 0 → ((0 : Int32) = 0 ∨ (0 : Int32) = 1) ∧ Q (some (aI (0 : Int32))) σ3) ∧ (¬ r4 = 0 → nn (ldR lay1 σ (gR σ (gR σ 11 0) (ix x3)) 1) (Cl lay1 d M_Fr_side [aO 0 (ldR lay1 σ (gR σ (gR σ 11 0) (ix x3)) 1), aI (0 : Int32)] σ3 (rI fun r6 σ5 => Cl lay1 d M_Jm_floorMod [aI r6, aI x2] σ5 (rI fun r8 σ7 => ¬ x2 = 0 ∧ (inb x3 (gN σ7 69) ∧ (Wp lay1 rtOf (Cl lay1 d) k_La_prepare 2 Q (14, [aO 1 68, aO 8 11, aI x2, aI (x3 + (1 : Int32)), aO 0 (ldR lay1 σ (gR σ (gR σ 11 0) (ix x3)) 1), aI r4], [], (pI σ7 69 (ix x3) ((r8 * r4) - (r8 * r4) / x2 * x2)))))))))))))))))) : Wp lay1 rtOf (Cl lay1 d) k_La_prepare 2 Q (14, [aO 1 68, aO 8 11, aI x2, aI x3, u4, u5], [], σ) :=
  run_intro (Cl_mono lay1 d) [14] 600 h
set_option maxRecDepth 50000 in
theorem bk_La_inverse_0 {d : Nat} {σ : St} {Q : Option AV → St → Prop} (x0 : Int32) (x1 : Int32)
    (h : Wp lay1 rtOf (Cl lay1 d) k_La_inverse 1 Q (2, [aI x0, aI x1, aI (1 : Int32)], [], σ)) : Cl lay1 (d + 1) M_La_inverse [aI x0, aI x1] σ Q :=
  run_intro (Cl_mono lay1 d) [2] 600 h
set_option maxRecDepth 50000 in
theorem bk_La_inverse_2 {d : Nat} {σ : St} {Q : Option AV → St → Prop} (x0 : Int32) (x1 : Int32) (x2 : Int32)
    (h : (x1 ≤ x2 → Q (some (aI (0 : Int32))) σ) ∧ (¬ x1 ≤ x2 → ¬ x1 = 0 ∧ ((((x0 * x2) - (x0 * x2) / x1 * x1) = (1 : Int32) → Q (some (aI x2)) σ) ∧ (¬ ((x0 * x2) - (x0 * x2) / x1 * x1) = (1 : Int32) → Wp lay1 rtOf (Cl lay1 d) k_La_inverse 1 Q (2, [aI x0, aI x1, aI (x2 + (1 : Int32))], [], σ))))) : Wp lay1 rtOf (Cl lay1 d) k_La_inverse 1 Q (2, [aI x0, aI x1, aI x2], [], σ) :=
  run_intro (Cl_mono lay1 d) [2] 600 h
set_option maxRecDepth 50000 in
theorem bk_La_next_0 {d : Nat} {σ : St} {Q : Option AV → St → Prop} (x2 : Int32)
    (h : ¬ (gI σ 68 0) = 0 ∧ (¬ (gI σ 68 0) = 0 ∧ (Wp lay1 rtOf (Cl lay1 d) k_La_next 1 Q (18, [aO 1 68, aO 8 11, aI x2, aI (x2 / (gI σ 68 0)), aI (x2 - x2 / (gI σ 68 0) * (gI σ 68 0)), aI (0 : Int32)], [], σ)))) : Cl lay1 (d + 1) M_La_next [aO 1 68, aO 8 11, aI x2] σ Q :=
  run_intro (Cl_mono lay1 d) [18] 600 h
set_option maxRecDepth 50000 in
theorem bk_La_next_18 {d : Nat} {σ : St} {Q : Option AV → St → Prop} (u2 : AV) (x3 : Int32) (x4 : Int32) (x5 : Int32)
    (h : ((gI σ 11 1) ≤ x5 → Q (some (aI ((x3 * (gI σ 68 0)) + x4))) σ) ∧ (¬ (gI σ 11 1) ≤ x5 → nn (gR σ 11 0) (inb x5 (gN σ (gR σ 11 0)) ∧ (nn (gR σ (gR σ 11 0) (ix x5)) (((gI σ (gR σ (gR σ 11 0) (ix x5)) 0) = (0 : Int32) → inb x5 (gN σ 69) ∧ (¬ (gI σ 68 0) = 0 ∧ (Wp lay1 rtOf (Cl lay1 d) k_La_next 1 Q (18, [aO 1 68, aO 8 11, (unJ u2), aI ((x3 + ((gI σ 69 (ix x5)) * x4)) - (x3 + ((gI σ 69 (ix x5)) * x4)) / (gI σ 68 0) * (gI σ 68 0)), aI x4, aI (x5 + (1 : Int32))], [], σ)))) ∧ (¬ (gI σ (gR σ (gR σ 11 0) (ix x5)) 0) = (0 : Int32) → ((gI σ (gR σ (gR σ 11 0) (ix x5)) 0) = (1 : Int32) → inb x5 (gN σ 69) ∧ (Cl lay1 d M_Jm_floorMod [aI (x4 - ((gI σ 69 (ix x5)) * x3)), aI (gI σ 68 0)] σ (rI fun r4 σ3 => Wp lay1 rtOf (Cl lay1 d) k_La_next 1 Q (18, [aO 1 68, aO 8 11, u2, aI x3, aI r4, aI (x5 + (1 : Int32))], [], σ3)))) ∧ (¬ (gI σ (gR σ (gR σ 11 0) (ix x5)) 0) = (1 : Int32) → ((gI σ (gR σ (gR σ 11 0) (ix x5)) 0) = (2 : Int32) → inb x5 (gN σ 69) ∧ (Cl lay1 d M_Jm_floorMod [aI (x4 - (((gI σ 69 (ix x5)) * x3) * x3)), aI (gI σ 68 0)] σ (rI fun r2 σ1 => Wp lay1 rtOf (Cl lay1 d) k_La_next 1 Q (18, [aO 1 68, aO 8 11, u2, aI x3, aI r2, aI (x5 + (1 : Int32))], [], σ1)))) ∧ (¬ (gI σ (gR σ (gR σ 11 0) (ix x5)) 0) = (2 : Int32) → Wp lay1 rtOf (Cl lay1 d) k_La_next 1 Q (18, [aO 1 68, aO 8 11, u2, aI x3, aI x4, aI (x5 + (1 : Int32))], [], σ))))))))) : Wp lay1 rtOf (Cl lay1 d) k_La_next 1 Q (18, [aO 1 68, aO 8 11, u2, aI x3, aI x4, aI x5], [], σ) :=
  run_intro (Cl_mono lay1 d) [18] 600 h
set_option maxRecDepth 50000 in
theorem bk_La_followAll_0 {d : Nat} {σ : St} {Q : Option AV → St → Prop} 
    (h : Cl lay1 d M_Jm_min [aI ((gI σ 68 0) * (gI σ 68 0)), aI (961 : Int32)] σ (rI fun r2 σ1 => Wp lay1 rtOf (Cl lay1 d) k_La_followAll 0 Q (18, [aO 1 68, aO 8 11, aI r2, aI (0 : Int32)], [], σ1))) : Cl lay1 (d + 1) M_La_followAll [aO 1 68, aO 8 11] σ Q :=
  run_intro (Cl_mono lay1 d) [18, 71] 600 h
set_option maxRecDepth 50000 in
theorem bk_La_followAll_18 {d : Nat} {σ : St} {Q : Option AV → St → Prop} (x2 : Int32) (x3 : Int32)
    (h : (x2 ≤ x3 → ((1 : Int32) = 0 ∨ (1 : Int32) = 1) ∧ (Wp lay1 rtOf (Cl lay1 d) k_La_followAll 0 Q (71, [aO 1 68, aO 8 11, aI x2, aI (0 : Int32)], [], (pI (pI (pI (pI (pI (pI σ 68 3 (1 : Int32)) 68 4 (gI (pI σ 68 3 (1 : Int32)) 68 0)) 68 5 (0 : Int32)) 68 6 (0 : Int32)) 68 7 (0 : Int32)) 68 8 (0 : Int32))))) ∧ (¬ x2 ≤ x3 → inb x3 (gN σ 70) ∧ (Wp lay1 rtOf (Cl lay1 d) k_La_followAll 0 Q (18, [aO 1 68, aO 8 11, aI x2, aI (x3 + (1 : Int32))], [], (pI σ 70 (ix x3) (vp_nar .boolean (0 : Int32))))))) : Wp lay1 rtOf (Cl lay1 d) k_La_followAll 0 Q (18, [aO 1 68, aO 8 11, aI x2, aI x3], [], σ) :=
  run_intro (Cl_mono lay1 d) [18, 71] 600 h
set_option maxRecDepth 50000 in
theorem bk_La_followAll_71 {d : Nat} {σ : St} {Q : Option AV → St → Prop} (x2 : Int32) (x3 : Int32)
    (h : (x2 ≤ x3 → Q none σ) ∧ (¬ x2 ≤ x3 → inb x3 (gN σ 70) ∧ (((gI σ 70 (ix x3)) = 0 → Cl lay1 d M_La_follow [aO 1 68, aO 8 11, aI x3, aI x2] σ (rI fun r2 σ1 => Cl lay1 d M_La_noteCycle [aO 1 68, aI x3, aI r2] σ1 (rV fun σ3 => Wp lay1 rtOf (Cl lay1 d) k_La_followAll 0 Q (71, [aO 1 68, aO 8 11, aI x2, aI (x3 + (1 : Int32))], [], σ3)))) ∧ (¬ (gI σ 70 (ix x3)) = 0 → Wp lay1 rtOf (Cl lay1 d) k_La_followAll 0 Q (71, [aO 1 68, aO 8 11, aI x2, aI (x3 + (1 : Int32))], [], σ))))) : Wp lay1 rtOf (Cl lay1 d) k_La_followAll 0 Q (71, [aO 1 68, aO 8 11, aI x2, aI x3], [], σ) :=
  run_intro (Cl_mono lay1 d) [18, 71] 600 h
set_option maxRecDepth 50000 in
theorem bk_La_follow_0 {d : Nat} {σ : St} {Q : Option AV → St → Prop} (x2 : Int32) (x3 : Int32)
    (h : Wp lay1 rtOf (Cl lay1 d) k_La_follow 1 Q (6, [aO 1 68, aO 8 11, aI x2, aI x3, aI (0 : Int32), aI x2], [], σ)) : Cl lay1 (d + 1) M_La_follow [aO 1 68, aO 8 11, aI x2, aI x3] σ Q :=
  run_intro (Cl_mono lay1 d) [6] 600 h
set_option maxRecDepth 50000 in
theorem bk_La_follow_6 {d : Nat} {σ : St} {Q : Option AV → St → Prop} (u2 : AV) (x3 : Int32) (x4 : Int32) (x5 : Int32)
    (h : (x3 ≤ x4 → Q (some (aI x4)) σ) ∧ (¬ x3 ≤ x4 → inb x5 (gN σ 70) ∧ (((gI σ 70 (ix x5)) = 0 → inb x5 (gN σ 70) ∧ (Cl lay1 d M_La_next [aO 1 68, aO 8 11, aI x5] (pI σ 70 (ix x5) (vp_nar .boolean (1 : Int32))) (rI fun r2 σ1 => Wp lay1 rtOf (Cl lay1 d) k_La_follow 1 Q (6, [aO 1 68, aO 8 11, u2, aI x3, aI (x4 + (1 : Int32)), aI r2], [], σ1)))) ∧ (¬ (gI σ 70 (ix x5)) = 0 → Q (some (aI x4)) σ)))) : Wp lay1 rtOf (Cl lay1 d) k_La_follow 1 Q (6, [aO 1 68, aO 8 11, u2, aI x3, aI x4, aI x5], [], σ) :=
  run_intro (Cl_mono lay1 d) [6] 600 h
set_option maxRecDepth 50000 in
theorem bk_La_noteCycle_0 {d : Nat} {σ : St} {Q : Option AV → St → Prop} (x1 : Int32) (x2 : Int32)
    (h : (x2 = (1 : Int32) → (x2 ≤ (gI (pI (pI σ 68 6 ((gI σ 68 6) + (1 : Int32))) 68 5 ((gI (pI σ 68 6 ((gI σ 68 6) + (1 : Int32))) 68 5) + (1 : Int32))) 68 7) → Q none (pI (pI σ 68 6 ((gI σ 68 6) + (1 : Int32))) 68 5 ((gI (pI σ 68 6 ((gI σ 68 6) + (1 : Int32))) 68 5) + (1 : Int32)))) ∧ (¬ x2 ≤ (gI (pI (pI σ 68 6 ((gI σ 68 6) + (1 : Int32))) 68 5 ((gI (pI σ 68 6 ((gI σ 68 6) + (1 : Int32))) 68 5) + (1 : Int32))) 68 7) → Q none (pI (pI (pI (pI σ 68 6 ((gI σ 68 6) + (1 : Int32))) 68 5 ((gI (pI σ 68 6 ((gI σ 68 6) + (1 : Int32))) 68 5) + (1 : Int32))) 68 7 x2) 68 8 x1))) ∧ (¬ x2 = (1 : Int32) → (x2 ≤ (gI (pI σ 68 6 ((gI σ 68 6) + (1 : Int32))) 68 7) → Q none (pI σ 68 6 ((gI σ 68 6) + (1 : Int32)))) ∧ (¬ x2 ≤ (gI (pI σ 68 6 ((gI σ 68 6) + (1 : Int32))) 68 7) → Q none (pI (pI (pI σ 68 6 ((gI σ 68 6) + (1 : Int32))) 68 7 x2) 68 8 x1)))) : Cl lay1 (d + 1) M_La_noteCycle [aO 1 68, aI x1, aI x2] σ Q :=
  run_intro (Cl_mono lay1 d) [] 600 h
set_option maxRecDepth 50000 in
theorem bk_La_fact_0 {d : Nat} {σ : St} {Q : Option AV → St → Prop} (x1 : Int32)
    (h : (x1 = (0 : Int32) → Q (some (aI (gI σ 68 4))) σ) ∧ (¬ x1 = (0 : Int32) → (x1 = (1 : Int32) → Q (some (aI (gI σ 68 6))) σ) ∧ (¬ x1 = (1 : Int32) → (x1 = (2 : Int32) → Q (some (aI (gI σ 68 7))) σ) ∧ (¬ x1 = (2 : Int32) → Q (some (aI (gI σ 68 8))) σ)))) : Cl lay1 (d + 1) M_La_fact [aO 1 68, aI x1] σ Q :=
  run_intro (Cl_mono lay1 d) [] 600 h
set_option maxRecDepth 50000 in
theorem bk_Op_isBig_0 {d : Nat} {σ : St} {Q : Option AV → St → Prop} 
    (h : ((gI σ 30 0) = 0 ∨ (gI σ 30 0) = 1) ∧ Q (some (aI (gI σ 30 0))) σ) : Cl lay1 (d + 1) M_Op_isBig [aO 4 29] σ Q :=
  run_intro (Cl_mono lay1 d) [] 600 h
set_option maxRecDepth 50000 in
theorem bk_Op_onlyKick_0 {d : Nat} {σ : St} {Q : Option AV → St → Prop} (x1 : Int32)
    (h : Wp lay1 rtOf (Cl lay1 d) k_Op_onlyKick 25 Q (2, [aO 4 29, aI x1, aI (0 : Int32)], [], σ)) : Cl lay1 (d + 1) M_Op_onlyKick [aO 4 29, aI x1] σ Q :=
  run_intro (Cl_mono lay1 d) [2] 600 h
set_option maxRecDepth 50000 in
theorem bk_Op_onlyKick_2 {d : Nat} {σ : St} {Q : Option AV → St → Prop} (x1 : Int32) (x2 : Int32)
    (h : ((12 : Int32) ≤ x2 → Q (some (aO 21 50)) σ) ∧ (¬ (12 : Int32) ≤ x2 → inb x2 (gN σ 50) ∧ ((x2 = x1 → nn (gR σ 50 (ix x2)) (Cl lay1 d M_Fr_put [aO 0 (gR σ 50 (ix x2)), aJ (1 : Int64), aJ (1 : Int64)] σ (rV fun σ1 => Wp lay1 rtOf (Cl lay1 d) k_Op_onlyKick 25 Q (2, [aO 4 29, aI x1, aI (x2 + (1 : Int32))], [], σ1)))) ∧ (¬ x2 = x1 → nn (gR σ 50 (ix x2)) (Cl lay1 d M_Fr_put [aO 0 (gR σ 50 (ix x2)), aJ (0 : Int64), aJ (1 : Int64)] σ (rV fun σ2 => Wp lay1 rtOf (Cl lay1 d) k_Op_onlyKick 25 Q (2, [aO 4 29, aI x1, aI (x2 + (1 : Int32))], [], σ2))))))) : Wp lay1 rtOf (Cl lay1 d) k_Op_onlyKick 25 Q (2, [aO 4 29, aI x1, aI x2], [], σ) :=
  run_intro (Cl_mono lay1 d) [2] 600 h
set_option maxRecDepth 50000 in
theorem bk_Op_lead_0 {d : Nat} {σ : St} {Q : Option AV → St → Prop} (x1 : Nat) (x2 : Nat)
    (h : ((gI σ (x2 + 1) 0) = 0 → Cl lay1 d M_Rk_plusProduct [aO 7 30, aO 0 (ldR lay1 σ (x1 + 1) 0), aO 0 (ldR lay1 σ (x2 + 1) 1), aO 0 (ldR lay1 σ (x1 + 1) 1)] σ (rV fun σ1 => Q none σ1)) ∧ (¬ (gI σ (x2 + 1) 0) = 0 → ((gI σ (x2 + 1) 0) = (1 : Int32) → Cl lay1 d M_Rk_minusProduct [aO 7 30, aO 0 (ldR lay1 σ (x1 + 1) 1), aO 0 (ldR lay1 σ (x2 + 1) 1), aO 0 (ldR lay1 σ (x1 + 1) 0)] σ (rV fun σ2 => Q none σ2)) ∧ (¬ (gI σ (x2 + 1) 0) = (1 : Int32) → Q none σ))) : Cl lay1 (d + 1) M_Op_lead [aO 4 29, aO 3 (x1 + 1), aO 5 (x2 + 1)] σ Q :=
  run_intro (Cl_mono lay1 d) [] 600 h
set_option maxRecDepth 50000 in
theorem bk_Op_giveKick_0 {d : Nat} {σ : St} {Q : Option AV → St → Prop} (x1 : Nat) (x3 : Int32) (x4 : Nat)
    (h : nn (gR σ 11 0) (inb x3 (gN σ (gR σ 11 0)) ∧ (nn (gR σ (gR σ 11 0) (ix x3)) (((gI σ (gR σ (gR σ 11 0) (ix x3)) 0) = (3 : Int32) → inb x3 (gN σ 28) ∧ (inb (gI σ 28 (ix x3)) (gN σ (x4 + 1)) ∧ (Cl lay1 d M_Rk_plus [aO 7 30, aO 0 (ldR lay1 σ (x1 + 1) 1), aO 0 (gR σ (x4 + 1) (ix (gI σ 28 (ix x3))))] σ (rV fun σ1 => Q none σ1)))) ∧ (¬ (gI σ (gR σ (gR σ 11 0) (ix x3)) 0) = (3 : Int32) → Q none σ))))) : Cl lay1 (d + 1) M_Op_giveKick [aO 4 29, aO 3 (x1 + 1), aO 8 11, aI x3, aO 21 (x4 + 1)] σ Q :=
  run_intro (Cl_mono lay1 d) [] 600 h
set_option maxRecDepth 50000 in
theorem bk_Op_beginTable_0 {d : Nat} {σ : St} {Q : Option AV → St → Prop} 
    (h : Cl lay1 d M_Rk_begin [aO 7 30] σ (rV fun σ1 => Cl lay1 d M_Mo_put [aO 3 32, aJ (1 : Int64), aJ (0 : Int64)] σ1 (rV fun σ2 => Cl lay1 d M_Mo_put [aO 3 35, aJ (0 : Int64), aJ (1 : Int64)] σ2 (rV fun σ3 => Q none σ3)))) : Cl lay1 (d + 1) M_Op_beginTable [aO 4 29] σ Q :=
  run_intro (Cl_mono lay1 d) [] 600 h
set_option maxRecDepth 50000 in
theorem bk_Op_reckonTable_0 {d : Nat} {σ : St} {Q : Option AV → St → Prop} (x2 : Int32) (x3 : Int32)
    (h : Cl lay1 d M_Op_beginTable [aO 4 29] σ (rV fun σ1 => Wp lay1 rtOf (Cl lay1 d) k_Op_reckonTable 0 Q (10, [aO 4 29, aO 8 11, aI x2, aI x3, aI x2, aI (0 : Int32)], [], σ1))) : Cl lay1 (d + 1) M_Op_reckonTable [aO 4 29, aO 8 11, aI x2, aI x3] σ Q :=
  run_intro (Cl_mono lay1 d) [10] 600 h
set_option maxRecDepth 50000 in
theorem bk_Op_reckonTable_10 {d : Nat} {σ : St} {Q : Option AV → St → Prop} (u2 : AV) (x3 : Int32) (x4 : Int32) (x5 : Int32)
    (h : (x3 ≤ x5 → Q none σ) ∧ (¬ x3 ≤ x5 → ((gI σ 30 0) = 0 → nn (gR σ 11 0) (inb x4 (gN σ (gR σ 11 0)) ∧ (Cl lay1 d M_Op_lead [aO 4 29, aO 3 32, aO 5 (gR σ (gR σ 11 0) (ix x4))] σ (rV fun σ1 => nn (gR σ1 11 0) (inb x4 (gN σ1 (gR σ1 11 0)) ∧ (Cl lay1 d M_Op_lead [aO 4 29, aO 3 35, aO 5 (gR σ1 (gR σ1 11 0) (ix x4))] σ1 (rV fun σ2 => ((gI σ2 11 1) ≤ (x4 + (1 : Int32)) → Wp lay1 rtOf (Cl lay1 d) k_Op_reckonTable 0 Q (10, [aO 4 29, aO 8 11, u2, aI x3, aI (0 : Int32), aI (x5 + (1 : Int32))], [], σ2)) ∧ (¬ (gI σ2 11 1) ≤ (x4 + (1 : Int32)) → Wp lay1 rtOf (Cl lay1 d) k_Op_reckonTable 0 Q (10, [aO 4 29, aO 8 11, u2, aI x3, aI (x4 + (1 : Int32)), aI (x5 + (1 : Int32))], [], σ2))))))))) ∧ (¬ (gI σ 30 0) = 0 → Q none σ))) : Wp lay1 rtOf (Cl lay1 d) k_Op_reckonTable 0 Q (10, [aO 4 29, aO 8 11, u2, aI x3, aI x4, aI x5], [], σ) :=
  run_intro (Cl_mono lay1 d) [10] 600 h
set_option maxRecDepth 50000 in
theorem bk_Op_stability_0 {d : Nat} {σ : St} {Q : Option AV → St → Prop} 
    (h : Cl lay1 d M_Fr_copy [aO 0 44, aO 0 33] σ (rV fun σ1 => Cl lay1 d M_Rk_plus [aO 7 30, aO 0 44, aO 0 37] σ1 (rV fun σ2 => ((gI σ2 30 0) = 0 → Cl lay1 d M_Fr_compareToWhole [aO 0 44, aJ (-2 : Int64)] σ2 (rI fun r4 σ3 => Cl lay1 d M_Fr_compareToWhole [aO 0 44, aJ (2 : Int64)] σ3 (rI fun r6 σ5 => (r4 = 0 → Q (some (aI (1 : Int32))) σ5) ∧ (¬ r4 = 0 → (r6 = 0 → Q (some (aI (1 : Int32))) σ5) ∧ (¬ r6 = 0 → (r4 ≤ 0 → Q (some (aI (0 : Int32))) σ5) ∧ (¬ r4 ≤ 0 → (0 ≤ r6 → Q (some (aI (0 : Int32))) σ5) ∧ (¬ 0 ≤ r6 → Q (some (aI (2 : Int32))) σ5))))))) ∧ (¬ (gI σ2 30 0) = 0 → Q (some (aI (-5 : Int32))) σ2)))) : Cl lay1 (d + 1) M_Op_stability [aO 4 29] σ Q :=
  run_intro (Cl_mono lay1 d) [] 600 h
set_option maxRecDepth 50000 in
theorem bk_Op_roundsUntilBack_0 {d : Nat} {σ : St} {Q : Option AV → St → Prop} 
    (h : Cl lay1 d M_Fr_compareToWhole [aO 0 44, aJ (-1 : Int64)] σ (rI fun r2 σ1 => (r2 = 0 → Q (some (aI (3 : Int32))) σ1) ∧ (¬ r2 = 0 → Cl lay1 d M_Fr_compareToWhole [aO 0 44, aJ (0 : Int64)] σ1 (rI fun r4 σ3 => (r4 = 0 → Q (some (aI (4 : Int32))) σ3) ∧ (¬ r4 = 0 → Cl lay1 d M_Fr_compareToWhole [aO 0 44, aJ (1 : Int64)] σ3 (rI fun r6 σ5 => (r6 = 0 → Q (some (aI (6 : Int32))) σ5) ∧ (¬ r6 = 0 → Q (some (aI (0 : Int32))) σ5))))))) : Cl lay1 (d + 1) M_Op_roundsUntilBack [aO 4 29] σ Q :=
  run_intro (Cl_mono lay1 d) [] 600 h
set_option maxRecDepth 50000 in
theorem bk_Op_reckonMiddleWidth_0 {d : Nat} {σ : St} {Q : Option AV → St → Prop} 
    (h : Cl lay1 d M_Fr_copy [aO 0 47, aO 0 33] σ (rV fun σ1 => Cl lay1 d M_Rk_minus [aO 7 30, aO 0 47, aO 0 37] σ1 (rV fun σ2 => Cl lay1 d M_Fr_put [aO 0 46, aJ (1 : Int64), aJ (2 : Int64)] σ2 (rV fun σ3 => Cl lay1 d M_Rk_times [aO 7 30, aO 0 47, aO 0 46] σ3 (rV fun σ4 => Q none σ4))))) : Cl lay1 (d + 1) M_Op_reckonMiddleWidth [aO 4 29] σ Q :=
  run_intro (Cl_mono lay1 d) [] 600 h
set_option maxRecDepth 50000 in
theorem bk_Op_closeWay_0 {d : Nat} {σ : St} {Q : Option AV → St → Prop} (x2 : Nat) (x3 : Int32)
    (h : Cl lay1 d M_Op_beginTable [aO 4 29] σ (rV fun σ1 => Cl lay1 d M_Mo_put [aO 3 38, aJ (0 : Int64), aJ (0 : Int64)] σ1 (rV fun σ2 => Wp lay1 rtOf (Cl lay1 d) k_Op_closeWay 1 Q (16, [aO 4 29, aO 8 11, aO 21 (x2 + 1), aI x3, aI (0 : Int32)], [], σ2)))) : Cl lay1 (d + 1) M_Op_closeWay [aO 4 29, aO 8 11, aO 21 (x2 + 1), aI x3] σ Q :=
  run_intro (Cl_mono lay1 d) [16, 178] 600 h
set_option maxRecDepth 50000 in
theorem bk_Op_closeWay_16 {d : Nat} {σ : St} {Q : Option AV → St → Prop} (x2 : Nat) (x3 : Int32) (x4 : Int32)
    (h : ((gI σ 11 1) ≤ x4 → Cl lay1 d M_Fr_put [aO 0 45, aJ (2 : Int64), aJ (1 : Int64)] σ (rV fun σ1 => Cl lay1 d M_Rk_minus [aO 7 30, aO 0 45, aO 0 33] σ1 (rV fun σ2 => Cl lay1 d M_Rk_minus [aO 7 30, aO 0 45, aO 0 37] σ2 (rV fun σ3 => ((gI σ3 30 0) = 0 → Cl lay1 d M_Fr_isZero [aO 0 45] σ3 (rI fun r5 σ4 => (r5 = 0 → Cl lay1 d M_Op_solveClosed [aO 4 29] σ4 (rV fun σ6 => Wp lay1 rtOf (Cl lay1 d) k_Op_closeWay 1 Q (178, [aO 4 29, aO 8 11, aO 21 (x2 + 1), aI x3, aI (0 : Int32)], [], σ6))) ∧ (¬ r5 = 0 → Q (some (aI (-2 : Int32))) σ4))) ∧ (¬ (gI σ3 30 0) = 0 → Q (some (aI (-5 : Int32))) σ3))))) ∧ (¬ (gI σ 11 1) ≤ x4 → ((gI σ 30 0) = 0 → nn (gR σ 11 0) (inb x4 (gN σ (gR σ 11 0)) ∧ (Cl lay1 d M_Op_lead [aO 4 29, aO 3 32, aO 5 (gR σ (gR σ 11 0) (ix x4))] σ (rV fun σ7 => nn (gR σ7 11 0) (inb x4 (gN σ7 (gR σ7 11 0)) ∧ (Cl lay1 d M_Op_lead [aO 4 29, aO 3 35, aO 5 (gR σ7 (gR σ7 11 0) (ix x4))] σ7 (rV fun σ8 => nn (gR σ8 11 0) (inb x4 (gN σ8 (gR σ8 11 0)) ∧ (Cl lay1 d M_Op_lead [aO 4 29, aO 3 38, aO 5 (gR σ8 (gR σ8 11 0) (ix x4))] σ8 (rV fun σ9 => Cl lay1 d M_Op_giveKick [aO 4 29, aO 3 38, aO 8 11, aI x4, aO 21 (x2 + 1)] σ9 (rV fun σ10 => Wp lay1 rtOf (Cl lay1 d) k_Op_closeWay 1 Q (16, [aO 4 29, aO 8 11, aO 21 (x2 + 1), aI x3, aI (x4 + (1 : Int32))], [], σ10)))))))))))) ∧ (¬ (gI σ 30 0) = 0 → Cl lay1 d M_Fr_put [aO 0 45, aJ (2 : Int64), aJ (1 : Int64)] σ (rV fun σ11 => Cl lay1 d M_Rk_minus [aO 7 30, aO 0 45, aO 0 33] σ11 (rV fun σ12 => Cl lay1 d M_Rk_minus [aO 7 30, aO 0 45, aO 0 37] σ12 (rV fun σ13 => ((gI σ13 30 0) = 0 → Cl lay1 d M_Fr_isZero [aO 0 45] σ13 (rI fun r15 σ14 => (r15 = 0 → Cl lay1 d M_Op_solveClosed [aO 4 29] σ14 (rV fun σ16 => Wp lay1 rtOf (Cl lay1 d) k_Op_closeWay 1 Q (178, [aO 4 29, aO 8 11, aO 21 (x2 + 1), aI x3, aI (0 : Int32)], [], σ16))) ∧ (¬ r15 = 0 → Q (some (aI (-2 : Int32))) σ14))) ∧ (¬ (gI σ13 30 0) = 0 → Q (some (aI (-5 : Int32))) σ13))))))) : Wp lay1 rtOf (Cl lay1 d) k_Op_closeWay 1 Q (16, [aO 4 29, aO 8 11, aO 21 (x2 + 1), aI x3, aI x4], [], σ) :=
  run_intro (Cl_mono lay1 d) [16, 178] 600 h
set_option maxRecDepth 50000 in
theorem bk_Op_closeWay_178 {d : Nat} {σ : St} {Q : Option AV → St → Prop} (x2 : Nat) (x3 : Int32) (x4 : Int32)
    (h : (x3 ≤ x4 → ((gI σ 30 0) = 0 → Q (some (aI (0 : Int32))) σ) ∧ (¬ (gI σ 30 0) = 0 → Q (some (aI (-5 : Int32))) σ)) ∧ (¬ x3 ≤ x4 → ((gI σ 11 1) ≤ x4 → ((gI σ 30 0) = 0 → Q (some (aI (0 : Int32))) σ) ∧ (¬ (gI σ 30 0) = 0 → Q (some (aI (-5 : Int32))) σ)) ∧ (¬ (gI σ 11 1) ≤ x4 → ((gI σ 30 0) = 0 → nn (gR σ 11 0) (inb x4 (gN σ (gR σ 11 0)) ∧ (Cl lay1 d M_Op_lead [aO 4 29, aO 3 41, aO 5 (gR σ (gR σ 11 0) (ix x4))] σ (rV fun σ1 => Cl lay1 d M_Op_giveKick [aO 4 29, aO 3 41, aO 8 11, aI x4, aO 21 (x2 + 1)] σ1 (rV fun σ2 => Wp lay1 rtOf (Cl lay1 d) k_Op_closeWay 1 Q (178, [aO 4 29, aO 8 11, aO 21 (x2 + 1), aI x3, aI (x4 + (1 : Int32))], [], σ2)))))) ∧ (¬ (gI σ 30 0) = 0 → ((gI σ 30 0) = 0 → Q (some (aI (0 : Int32))) σ) ∧ (¬ (gI σ 30 0) = 0 → Q (some (aI (-5 : Int32))) σ))))) : Wp lay1 rtOf (Cl lay1 d) k_Op_closeWay 1 Q (178, [aO 4 29, aO 8 11, aO 21 (x2 + 1), aI x3, aI x4], [], σ) :=
  run_intro (Cl_mono lay1 d) [16, 178] 600 h
set_option maxRecDepth 50000 in
theorem bk_Op_solveClosed_0 {d : Nat} {σ : St} {Q : Option AV → St → Prop} 
    (h : Cl lay1 d M_Fr_put [aO 0 42, aJ (1 : Int64), aJ (1 : Int64)] σ (rV fun σ1 => Cl lay1 d M_Rk_minus [aO 7 30, aO 0 42, aO 0 37] σ1 (rV fun σ2 => Cl lay1 d M_Rk_times [aO 7 30, aO 0 42, aO 0 39] σ2 (rV fun σ3 => Cl lay1 d M_Rk_plusProduct [aO 7 30, aO 0 42, aO 0 36, aO 0 40] σ3 (rV fun σ4 => Cl lay1 d M_Rk_over [aO 7 30, aO 0 42, aO 0 45] σ4 (rV fun σ5 => Cl lay1 d M_Fr_put [aO 0 46, aJ (1 : Int64), aJ (1 : Int64)] σ5 (rV fun σ6 => Cl lay1 d M_Rk_minus [aO 7 30, aO 0 46, aO 0 33] σ6 (rV fun σ7 => Cl lay1 d M_Fr_copy [aO 0 43, aO 0 34] σ7 (rV fun σ8 => Cl lay1 d M_Rk_times [aO 7 30, aO 0 43, aO 0 39] σ8 (rV fun σ9 => Cl lay1 d M_Rk_plusProduct [aO 7 30, aO 0 43, aO 0 46, aO 0 40] σ9 (rV fun σ10 => Cl lay1 d M_Rk_over [aO 7 30, aO 0 43, aO 0 45] σ10 (rV fun σ11 => Q none σ11)))))))))))) : Cl lay1 (d + 1) M_Op_solveClosed [aO 4 29] σ Q :=
  run_intro (Cl_mono lay1 d) [] 600 h
set_option maxRecDepth 50000 in
theorem bk_Op_closeBump_0 {d : Nat} {σ : St} {Q : Option AV → St → Prop} (x2 : Int32) (x3 : Int32) (x4 : Int32)
    (h : Cl lay1 d M_Op_reckonTable [aO 4 29, aO 8 11, aI x2, aI (x4 - x2)] σ (rV fun σ1 => ((gI σ1 30 0) = 0 → Cl lay1 d M_Fr_copy [aO 0 48, aO 0 36] σ1 (rV fun σ2 => Cl lay1 d M_Fr_copy [aO 0 49, aO 0 37] σ2 (rV fun σ3 => Cl lay1 d M_Op_reckonTable [aO 4 29, aO 8 11, aI x3, aI (x4 - x3)] σ3 (rV fun σ4 => ((gI σ4 30 0) = 0 → Cl lay1 d M_Fr_isZero [aO 0 36] σ4 (rI fun r6 σ5 => (r6 = 0 → Cl lay1 d M_Fr_negate [aO 0 48] σ5 (rV fun σ7 => Cl lay1 d M_Rk_over [aO 7 30, aO 0 48, aO 0 36] σ7 (rV fun σ8 => Cl lay1 d M_Fr_negate [aO 0 49] σ8 (rV fun σ9 => Cl lay1 d M_Rk_minusProduct [aO 7 30, aO 0 49, aO 0 48, aO 0 37] σ9 (rV fun σ10 => ((gI σ10 30 0) = 0 → Q (some (aI (0 : Int32))) σ10) ∧ (¬ (gI σ10 30 0) = 0 → Q (some (aI (-5 : Int32))) σ10)))))) ∧ (¬ r6 = 0 → Q (some (aI (-2 : Int32))) σ5))) ∧ (¬ (gI σ4 30 0) = 0 → Q (some (aI (-5 : Int32))) σ4))))) ∧ (¬ (gI σ1 30 0) = 0 → Q (some (aI (-5 : Int32))) σ1))) : Cl lay1 (d + 1) M_Op_closeBump [aO 4 29, aO 8 11, aI x2, aI x3, aI x4] σ Q :=
  run_intro (Cl_mono lay1 d) [] 600 h
set_option maxRecDepth 50000 in
theorem bk_Op_hasTold_0 {d : Nat} {σ : St} {Q : Option AV → St → Prop} (x1 : Int32)
    (h : (x1 < 0 → ((0 : Int32) = 0 ∨ (0 : Int32) = 1) ∧ Q (some (aI (0 : Int32))) σ) ∧ (¬ x1 < 0 → ((gI σ 29 13) ≤ x1 → ((0 : Int32) = 0 ∨ (0 : Int32) = 1) ∧ Q (some (aI (0 : Int32))) σ) ∧ (¬ (gI σ 29 13) ≤ x1 → ((1 : Int32) = 0 ∨ (1 : Int32) = 1) ∧ Q (some (aI (1 : Int32))) σ))) : Cl lay1 (d + 1) M_Op_hasTold [aO 4 29, aI x1] σ Q :=
  run_intro (Cl_mono lay1 d) [] 600 h
set_option maxRecDepth 50000 in
theorem bk_Op_tell_0 {d : Nat} {σ : St} {Q : Option AV → St → Prop} (x1 : Nat)
    (h : ((4 : Int32) ≤ (gI σ 29 13) → Q none σ) ∧ (¬ (4 : Int32) ≤ (gI σ 29 13) → inb (gI σ 29 13) (gN σ 51) ∧ (nn (gR σ 51 (ix (gI σ 29 13))) (Cl lay1 d M_Fr_copy [aO 0 (gR σ 51 (ix (gI σ 29 13))), aO 0 (x1 + 1)] σ (rV fun σ1 => Q none (pI σ1 29 13 ((gI σ1 29 13) + (1 : Int32)))))))) : Cl lay1 (d + 1) M_Op_tell [aO 4 29, aO 0 (x1 + 1)] σ Q :=
  run_intro (Cl_mono lay1 d) [] 600 h
set_option maxRecDepth 50000 in
theorem bk_Op_tellTable_0 {d : Nat} {σ : St} {Q : Option AV → St → Prop} 
    (h : Cl lay1 d M_Op_tell [aO 4 29, aO 0 33] (pI σ 29 13 (0 : Int32)) (rV fun σ1 => Cl lay1 d M_Op_tell [aO 4 29, aO 0 36] σ1 (rV fun σ2 => Cl lay1 d M_Op_tell [aO 4 29, aO 0 34] σ2 (rV fun σ3 => Cl lay1 d M_Op_tell [aO 4 29, aO 0 37] σ3 (rV fun σ4 => Q (some (aI (gI σ4 29 13))) σ4))))) : Cl lay1 (d + 1) M_Op_tellTable [aO 4 29] σ Q :=
  run_intro (Cl_mono lay1 d) [] 600 h
set_option maxRecDepth 50000 in
theorem bk_Op_tellWidths_0 {d : Nat} {σ : St} {Q : Option AV → St → Prop} 
    (h : Cl lay1 d M_Fr_negate [aO 0 34] σ (rV fun σ1 => Cl lay1 d M_Op_tell [aO 4 29, aO 0 36] (pI σ1 29 13 (0 : Int32)) (rV fun σ2 => Cl lay1 d M_Op_tell [aO 4 29, aO 0 47] σ2 (rV fun σ3 => Cl lay1 d M_Op_tell [aO 4 29, aO 0 34] σ3 (rV fun σ4 => Q (some (aI (gI σ4 29 13))) σ4))))) : Cl lay1 (d + 1) M_Op_tellWidths [aO 4 29] σ Q :=
  run_intro (Cl_mono lay1 d) [] 600 h
set_option maxRecDepth 50000 in
theorem bk_Op_tellWay_0 {d : Nat} {σ : St} {Q : Option AV → St → Prop} 
    (h : Cl lay1 d M_Op_tell [aO 4 29, aO 0 42] (pI σ 29 13 (0 : Int32)) (rV fun σ1 => Cl lay1 d M_Op_tell [aO 4 29, aO 0 43] σ1 (rV fun σ2 => Q (some (aI (gI σ2 29 13))) σ2))) : Cl lay1 (d + 1) M_Op_tellWay [aO 4 29] σ Q :=
  run_intro (Cl_mono lay1 d) [] 600 h
set_option maxRecDepth 50000 in
theorem bk_Op_tellWayX_0 {d : Nat} {σ : St} {Q : Option AV → St → Prop} 
    (h : Cl lay1 d M_Op_tell [aO 4 29, aO 0 42] (pI σ 29 13 (0 : Int32)) (rV fun σ1 => Q (some (aI (gI σ1 29 13))) σ1)) : Cl lay1 (d + 1) M_Op_tellWayX [aO 4 29] σ Q :=
  run_intro (Cl_mono lay1 d) [] 600 h
set_option maxRecDepth 50000 in
theorem bk_Op_tellBump_0 {d : Nat} {σ : St} {Q : Option AV → St → Prop} 
    (h : Cl lay1 d M_Op_tell [aO 4 29, aO 0 48] (pI σ 29 13 (0 : Int32)) (rV fun σ1 => Cl lay1 d M_Op_tell [aO 4 29, aO 0 49] σ1 (rV fun σ2 => Q (some (aI (gI σ2 29 13))) σ2))) : Cl lay1 (d + 1) M_Op_tellBump [aO 4 29] σ Q :=
  run_intro (Cl_mono lay1 d) [] 600 h
set_option maxRecDepth 50000 in
theorem bk_Re_findFault_0 {d : Nat} {σ : St} {Q : Option AV → St → Prop} 
    (h : Cl lay1 d M_Te_rewind [aO 10 5] σ (rV fun σ1 => layC lay1 4 5 0 ∧ (Wp lay1 rtOf (Cl lay1 d) k_Re_findFault 1 Q (19, [aO 6 4, aI (0 : Int32), aZ], [], (pI (pR σ1 4 5 0) 4 6 (0 : Int32)))))) : Cl lay1 (d + 1) M_Re_findFault [aO 6 4] σ Q :=
  run_intro (Cl_mono lay1 d) [19] 600 h
set_option maxRecDepth 50000 in
theorem bk_Re_findFault_19 {d : Nat} {σ : St} {Q : Option AV → St → Prop} (x1 : Int32) (u2 : AV)
    (h : ((1500 : Int32) < x1 → Q (some (aI (2 : Int32))) σ) ∧ (¬ (1500 : Int32) < x1 → Cl lay1 d M_Te_advance [aO 10 5] σ (rV fun σ1 => Cl lay1 d M_Re_take [aO 6 4] σ1 (rI fun r3 σ2 => (r3 = 0 → ((gI σ2 5 2) = (-1 : Int32) → Q (some (aI r3)) σ2) ∧ (¬ (gI σ2 5 2) = (-1 : Int32) → Wp lay1 rtOf (Cl lay1 d) k_Re_findFault 1 Q (19, [aO 6 4, aI (x1 + (1 : Int32)), aI r3], [], σ2))) ∧ (¬ r3 = 0 → Q (some (aI r3)) σ2))))) : Wp lay1 rtOf (Cl lay1 d) k_Re_findFault 1 Q (19, [aO 6 4, aI x1, u2], [], σ) :=
  run_intro (Cl_mono lay1 d) [19] 600 h
set_option maxRecDepth 50000 in
theorem bk_Re_faultPlace_0 {d : Nat} {σ : St} {Q : Option AV → St → Prop} 
    (h : Q (some (aI (gI σ 5 3))) σ) : Cl lay1 (d + 1) M_Re_faultPlace [aO 6 4] σ Q :=
  run_intro (Cl_mono lay1 d) [] 600 h
set_option maxRecDepth 50000 in
theorem bk_Re_lastLine_0 {d : Nat} {σ : St} {Q : Option AV → St → Prop} 
    (h : Q (some (aO 2 (gR σ 4 5))) σ) : Cl lay1 (d + 1) M_Re_lastLine [aO 6 4] σ Q :=
  run_intro (Cl_mono lay1 d) [] 600 h
set_option maxRecDepth 50000 in
theorem bk_Re_take_0 {d : Nat} {σ : St} {Q : Option AV → St → Prop} 
    (h : ((gI σ 5 2) = (-2 : Int32) → Q (some (aI (1 : Int32))) σ) ∧ (¬ (gI σ 5 2) = (-2 : Int32) → ((gI σ 4 6) = (6 : Int32) → ((gI σ 5 2) = (47 : Int32) → ((gI σ 4 6) = (0 : Int32) → Cl lay1 d M_Re_takeLineName [aO 6 4] σ (rI fun r24 σ23 => Q (some (aI r24)) σ23)) ∧ (¬ (gI σ 4 6) = (0 : Int32) → ((gI σ 4 6) = (1 : Int32) → Cl lay1 d M_Re_takeAlone [aO 6 4, aI (61 : Int32), aI (2 : Int32)] σ (rI fun r22 σ21 => Q (some (aI r22)) σ21)) ∧ (¬ (gI σ 4 6) = (1 : Int32) → ((gI σ 4 6) = (2 : Int32) → Cl lay1 d M_Re_takeItem [aO 6 4] σ (rI fun r20 σ19 => Q (some (aI r20)) σ19)) ∧ (¬ (gI σ 4 6) = (2 : Int32) → ((gI σ 4 6) = (3 : Int32) → Cl lay1 d M_Re_closes [aO 6 4] σ (rI fun r14 σ13 => (r14 = 0 → Cl lay1 d M_Re_takeItem [aO 6 4] σ13 (rI fun r16 σ15 => Q (some (aI r16)) σ15)) ∧ (¬ r14 = 0 → Cl lay1 d M_Re_takeClose [aO 6 4] σ13 (rI fun r18 σ17 => Q (some (aI r18)) σ17)))) ∧ (¬ (gI σ 4 6) = (3 : Int32) → ((gI σ 4 6) = (4 : Int32) → Cl lay1 d M_Re_takeMinusOrNumber [aO 6 4] σ (rI fun r12 σ11 => Q (some (aI r12)) σ11)) ∧ (¬ (gI σ 4 6) = (4 : Int32) → ((gI σ 4 6) = (5 : Int32) → Cl lay1 d M_Re_takeAbove [aO 6 4] σ (rI fun r10 σ9 => Q (some (aI r10)) σ9)) ∧ (¬ (gI σ 4 6) = (5 : Int32) → ((gI σ 4 6) = (6 : Int32) → Cl lay1 d M_Re_takeAlone [aO 6 4, aI (47 : Int32), aI (7 : Int32)] σ (rI fun r8 σ7 => Q (some (aI r8)) σ7)) ∧ (¬ (gI σ 4 6) = (6 : Int32) → ((gI σ 4 6) = (7 : Int32) → Cl lay1 d M_Re_takeBelow [aO 6 4] σ (rI fun r6 σ5 => Q (some (aI r6)) σ5)) ∧ (¬ (gI σ 4 6) = (7 : Int32) → ((gI σ 4 6) = (8 : Int32) → Cl lay1 d M_Re_takeAlone [aO 6 4, aI (42 : Int32), aI (9 : Int32)] σ (rI fun r4 σ3 => Q (some (aI r4)) σ3)) ∧ (¬ (gI σ 4 6) = (8 : Int32) → Cl lay1 d M_Re_takeOpen [aO 6 4] σ (rI fun r2 σ1 => Q (some (aI r2)) σ1))))))))))) ∧ (¬ (gI σ 5 2) = (47 : Int32) → Cl lay1 d M_Re_endPart [aO 6 4, aI (gI σ 4 8), aI (gI σ 4 10), aI (1 : Int32)] σ (rI fun r26 σ25 => ((gI σ25 4 6) = (0 : Int32) → Cl lay1 d M_Re_takeLineName [aO 6 4] σ25 (rI fun r50 σ49 => Q (some (aI r50)) σ49)) ∧ (¬ (gI σ25 4 6) = (0 : Int32) → ((gI σ25 4 6) = (1 : Int32) → Cl lay1 d M_Re_takeAlone [aO 6 4, aI (61 : Int32), aI (2 : Int32)] σ25 (rI fun r48 σ47 => Q (some (aI r48)) σ47)) ∧ (¬ (gI σ25 4 6) = (1 : Int32) → ((gI σ25 4 6) = (2 : Int32) → Cl lay1 d M_Re_takeItem [aO 6 4] σ25 (rI fun r46 σ45 => Q (some (aI r46)) σ45)) ∧ (¬ (gI σ25 4 6) = (2 : Int32) → ((gI σ25 4 6) = (3 : Int32) → Cl lay1 d M_Re_closes [aO 6 4] σ25 (rI fun r40 σ39 => (r40 = 0 → Cl lay1 d M_Re_takeItem [aO 6 4] σ39 (rI fun r42 σ41 => Q (some (aI r42)) σ41)) ∧ (¬ r40 = 0 → Cl lay1 d M_Re_takeClose [aO 6 4] σ39 (rI fun r44 σ43 => Q (some (aI r44)) σ43)))) ∧ (¬ (gI σ25 4 6) = (3 : Int32) → ((gI σ25 4 6) = (4 : Int32) → Cl lay1 d M_Re_takeMinusOrNumber [aO 6 4] σ25 (rI fun r38 σ37 => Q (some (aI r38)) σ37)) ∧ (¬ (gI σ25 4 6) = (4 : Int32) → ((gI σ25 4 6) = (5 : Int32) → Cl lay1 d M_Re_takeAbove [aO 6 4] σ25 (rI fun r36 σ35 => Q (some (aI r36)) σ35)) ∧ (¬ (gI σ25 4 6) = (5 : Int32) → ((gI σ25 4 6) = (6 : Int32) → Cl lay1 d M_Re_takeAlone [aO 6 4, aI (47 : Int32), aI (7 : Int32)] σ25 (rI fun r34 σ33 => Q (some (aI r34)) σ33)) ∧ (¬ (gI σ25 4 6) = (6 : Int32) → ((gI σ25 4 6) = (7 : Int32) → Cl lay1 d M_Re_takeBelow [aO 6 4] σ25 (rI fun r32 σ31 => Q (some (aI r32)) σ31)) ∧ (¬ (gI σ25 4 6) = (7 : Int32) → ((gI σ25 4 6) = (8 : Int32) → Cl lay1 d M_Re_takeAlone [aO 6 4, aI (42 : Int32), aI (9 : Int32)] σ25 (rI fun r30 σ29 => Q (some (aI r30)) σ29)) ∧ (¬ (gI σ25 4 6) = (8 : Int32) → Cl lay1 d M_Re_takeOpen [aO 6 4] σ25 (rI fun r28 σ27 => Q (some (aI r28)) σ27))))))))))))) ∧ (¬ (gI σ 4 6) = (6 : Int32) → ((gI σ 4 6) = (0 : Int32) → Cl lay1 d M_Re_takeLineName [aO 6 4] σ (rI fun r74 σ73 => Q (some (aI r74)) σ73)) ∧ (¬ (gI σ 4 6) = (0 : Int32) → ((gI σ 4 6) = (1 : Int32) → Cl lay1 d M_Re_takeAlone [aO 6 4, aI (61 : Int32), aI (2 : Int32)] σ (rI fun r72 σ71 => Q (some (aI r72)) σ71)) ∧ (¬ (gI σ 4 6) = (1 : Int32) → ((gI σ 4 6) = (2 : Int32) → Cl lay1 d M_Re_takeItem [aO 6 4] σ (rI fun r70 σ69 => Q (some (aI r70)) σ69)) ∧ (¬ (gI σ 4 6) = (2 : Int32) → ((gI σ 4 6) = (3 : Int32) → Cl lay1 d M_Re_closes [aO 6 4] σ (rI fun r64 σ63 => (r64 = 0 → Cl lay1 d M_Re_takeItem [aO 6 4] σ63 (rI fun r66 σ65 => Q (some (aI r66)) σ65)) ∧ (¬ r64 = 0 → Cl lay1 d M_Re_takeClose [aO 6 4] σ63 (rI fun r68 σ67 => Q (some (aI r68)) σ67)))) ∧ (¬ (gI σ 4 6) = (3 : Int32) → ((gI σ 4 6) = (4 : Int32) → Cl lay1 d M_Re_takeMinusOrNumber [aO 6 4] σ (rI fun r62 σ61 => Q (some (aI r62)) σ61)) ∧ (¬ (gI σ 4 6) = (4 : Int32) → ((gI σ 4 6) = (5 : Int32) → Cl lay1 d M_Re_takeAbove [aO 6 4] σ (rI fun r60 σ59 => Q (some (aI r60)) σ59)) ∧ (¬ (gI σ 4 6) = (5 : Int32) → ((gI σ 4 6) = (6 : Int32) → Cl lay1 d M_Re_takeAlone [aO 6 4, aI (47 : Int32), aI (7 : Int32)] σ (rI fun r58 σ57 => Q (some (aI r58)) σ57)) ∧ (¬ (gI σ 4 6) = (6 : Int32) → ((gI σ 4 6) = (7 : Int32) → Cl lay1 d M_Re_takeBelow [aO 6 4] σ (rI fun r56 σ55 => Q (some (aI r56)) σ55)) ∧ (¬ (gI σ 4 6) = (7 : Int32) → ((gI σ 4 6) = (8 : Int32) → Cl lay1 d M_Re_takeAlone [aO 6 4, aI (42 : Int32), aI (9 : Int32)] σ (rI fun r54 σ53 => Q (some (aI r54)) σ53)) ∧ (¬ (gI σ 4 6) = (8 : Int32) → Cl lay1 d M_Re_takeOpen [aO 6 4] σ (rI fun r52 σ51 => Q (some (aI r52)) σ51))))))))))))) : Cl lay1 (d + 1) M_Re_take [aO 6 4] σ Q :=
  run_intro (Cl_mono lay1 d) [] 600 h
set_option maxRecDepth 50000 in
theorem bk_Re_takeAlone_0 {d : Nat} {σ : St} {Q : Option AV → St → Prop} (x1 : Int32) (x2 : Int32)
    (h : ((gI σ 5 2) = x1 → Q (some (aI (0 : Int32))) (pI σ 4 6 x2)) ∧ (¬ (gI σ 5 2) = x1 → Q (some (aI (2 : Int32))) σ)) : Cl lay1 (d + 1) M_Re_takeAlone [aO 6 4, aI x1, aI x2] σ Q :=
  run_intro (Cl_mono lay1 d) [] 600 h
set_option maxRecDepth 50000 in
theorem bk_Re_takeLineName_0 {d : Nat} {σ : St} {Q : Option AV → St → Prop} 
    (h : ((gI σ 5 2) = (-1 : Int32) → ((gR σ 4 5) = 0 → Q (some (aI (2 : Int32))) σ) ∧ (¬ (gR σ 4 5) = 0 → Q (some (aI (0 : Int32))) σ)) ∧ (¬ (gI σ 5 2) = (-1 : Int32) → ((gI σ 5 2) = (-3 : Int32) → Cl lay1 d M_Te_isKindLetter [aO 10 5] σ (rI fun r2 σ1 => (r2 = 0 → Cl lay1 d M_Re_lineOf [aO 6 4, aJ (gL σ1 5 5)] σ1 (rO 2 fun j4 σ3 => (j4 = 0 → Cl lay1 d M_Ro_clear [aO 9 7] (pL σ3 4 7 (gL σ3 5 5)) (rV fun σ5 => Q (some (aI (0 : Int32))) (pI (pI σ5 4 4 (0 : Int32)) 4 6 (1 : Int32)))) ∧ (¬ j4 = 0 → Q (some (aI (2 : Int32))) σ3))) ∧ (¬ r2 = 0 → Q (some (aI (2 : Int32))) σ1))) ∧ (¬ (gI σ 5 2) = (-3 : Int32) → Q (some (aI (2 : Int32))) σ))) : Cl lay1 (d + 1) M_Re_takeLineName [aO 6 4] σ Q :=
  run_intro (Cl_mono lay1 d) [] 600 h
set_option maxRecDepth 50000 in
theorem bk_Re_lineOf_0 {d : Nat} {σ : St} {Q : Option AV → St → Prop} (x1 : Int64)
    (h : Wp lay1 rtOf (Cl lay1 d) k_Re_lineOf 6 Q (5, [aO 6 4, aJ x1, aZ, aO 2 (gR σ 4 5)], [], σ)) : Cl lay1 (d + 1) M_Re_lineOf [aO 6 4, aJ x1] σ Q :=
  run_intro (Cl_mono lay1 d) [5] 600 h
set_option maxRecDepth 50000 in
theorem bk_Re_lineOf_5 {d : Nat} {σ : St} {Q : Option AV → St → Prop} (u0 : AV) (x1 : Int64) (x3 : Nat)
    (h : (x3 = 0 → Q (some (aO 2 0)) σ) ∧ (¬ x3 = 0 → nn x3 (((lg_cmp (gL σ x3 0) x1) = 0 → Q (some (aO 2 x3)) σ) ∧ (¬ (lg_cmp (gL σ x3 0) x1) = 0 → nn x3 (Wp lay1 rtOf (Cl lay1 d) k_Re_lineOf 6 Q (5, [u0, aJ x1, aZ, aO 2 (ldR lay1 σ x3 2)], [], σ)))))) : Wp lay1 rtOf (Cl lay1 d) k_Re_lineOf 6 Q (5, [u0, aJ x1, aZ, aO 2 x3], [], σ) :=
  run_intro (Cl_mono lay1 d) [5] 600 h
set_option maxRecDepth 50000 in
theorem bk_Re_takeItem_0 {d : Nat} {σ : St} {Q : Option AV → St → Prop} 
    (h : ((gI σ 5 2) = (-4 : Int32) → Cl lay1 d M_Re_takeTimes [aO 6 4] σ (rI fun r2 σ1 => Q (some (aI r2)) σ1)) ∧ (¬ (gI σ 5 2) = (-4 : Int32) → ((gI σ 5 2) = (-3 : Int32) → Cl lay1 d M_Te_isName [aO 10 5, aI (100 : Int32)] σ (rI fun r4 σ3 => (r4 = 0 → Cl lay1 d M_Te_isName [aO 10 5, aI (113 : Int32)] σ3 (rI fun r6 σ5 => (r6 = 0 → Cl lay1 d M_Te_isName [aO 10 5, aI (115 : Int32)] σ5 (rI fun r8 σ7 => (r8 = 0 → Cl lay1 d M_Te_isName [aO 10 5, aI (107 : Int32)] σ7 (rI fun r10 σ9 => (r10 = 0 → Cl lay1 d M_Te_isName [aO 10 5, aI (109 : Int32)] σ9 (rI fun r12 σ11 => (r12 = 0 → Cl lay1 d M_Re_takeToldName [aO 6 4] σ11 (rI fun r14 σ13 => Q (some (aI r14)) σ13)) ∧ (¬ r12 = 0 → Cl lay1 d M_Re_endPart [aO 6 4, aI (4 : Int32), aI (0 : Int32), aI (1 : Int32)] σ11 (rI fun r16 σ15 => Q (some (aI r16)) σ15)))) ∧ (¬ r10 = 0 → Cl lay1 d M_Re_endPart [aO 6 4, aI (3 : Int32), aI (0 : Int32), aI (1 : Int32)] σ9 (rI fun r18 σ17 => Q (some (aI r18)) σ17)))) ∧ (¬ r8 = 0 → Cl lay1 d M_Re_beginPart [aO 6 4, aI (2 : Int32)] σ7 (rI fun r20 σ19 => Q (some (aI r20)) σ19)))) ∧ (¬ r6 = 0 → Cl lay1 d M_Re_beginPart [aO 6 4, aI (1 : Int32)] σ5 (rI fun r22 σ21 => Q (some (aI r22)) σ21)))) ∧ (¬ r4 = 0 → Cl lay1 d M_Re_beginPart [aO 6 4, aI (0 : Int32)] σ3 (rI fun r24 σ23 => Q (some (aI r24)) σ23)))) ∧ (¬ (gI σ 5 2) = (-3 : Int32) → Q (some (aI (2 : Int32))) σ))) : Cl lay1 (d + 1) M_Re_takeItem [aO 6 4] σ Q :=
  run_intro (Cl_mono lay1 d) [] 600 h
set_option maxRecDepth 50000 in
theorem bk_Re_takeTimes_0 {d : Nat} {σ : St} {Q : Option AV → St → Prop} 
    (h : ((lg_cmp (gL σ 5 5) (1 : Int64)) < 0 → Q (some (aI (2 : Int32))) σ) ∧ (¬ (lg_cmp (gL σ 5 5) (1 : Int64)) < 0 → ((lg_cmp (gL σ 5 5) (40 : Int64)) ≤ 0 → Q (some (aI (0 : Int32))) (pI (pI σ 4 11 (gL σ 5 5).toInt32) 4 6 (8 : Int32))) ∧ (¬ (lg_cmp (gL σ 5 5) (40 : Int64)) ≤ 0 → Q (some (aI (2 : Int32))) σ))) : Cl lay1 (d + 1) M_Re_takeTimes [aO 6 4] σ Q :=
  run_intro (Cl_mono lay1 d) [] 600 h
set_option maxRecDepth 50000 in
theorem bk_Re_takeToldName_0 {d : Nat} {σ : St} {Q : Option AV → St → Prop} 
    (h : Cl lay1 d M_Re_lineOf [aO 6 4, aJ (gL σ 5 5)] σ (rO 2 fun j2 σ1 => (j2 = 0 → Q (some (aI (2 : Int32))) σ1) ∧ (¬ j2 = 0 → Cl lay1 d M_Ro_addLine [aO 9 7, aO 2 j2] σ1 (rV fun σ3 => Q (some (aI (0 : Int32))) (pI σ3 4 6 (3 : Int32)))))) : Cl lay1 (d + 1) M_Re_takeToldName [aO 6 4] σ Q :=
  run_intro (Cl_mono lay1 d) [] 600 h
set_option maxRecDepth 50000 in
theorem bk_Re_beginPart_0 {d : Nat} {σ : St} {Q : Option AV → St → Prop} (x1 : Int32)
    (h : Q (some (aI (0 : Int32))) (pI (pI (pI σ 4 8 x1) 4 9 (1 : Int32)) 4 6 (4 : Int32))) : Cl lay1 (d + 1) M_Re_beginPart [aO 6 4, aI x1] σ Q :=
  run_intro (Cl_mono lay1 d) [] 600 h
set_option maxRecDepth 50000 in
theorem bk_Re_endPart_0 {d : Nat} {σ : St} {Q : Option AV → St → Prop} (x1 : Int32) (x2 : Int32) (x3 : Int32)
    (h : nn (sN σ) (Cl lay1 d M_Fr_init [aO 0 (sN σ)] (nw σ 0 (nF 0)) (rV fun σ1 => nn (sN σ) (Cl lay1 d M_Fr_put [aO 0 (sN σ), aJ x2.toInt64, aJ x3.toInt64] σ1 (rV fun σ2 => nn (sN σ2) (Cl lay1 d M_Pa_init [aO 5 (sN σ2), aI x1, aO 0 (sN σ)] (nw σ2 5 (nF 5)) (rV fun σ3 => Cl lay1 d M_Ro_add [aO 9 7, aO 5 (sN σ2)] σ3 (rV fun σ4 => Q (some (aI (0 : Int32))) (pI σ4 4 6 (3 : Int32)))))))))) : Cl lay1 (d + 1) M_Re_endPart [aO 6 4, aI x1, aI x2, aI x3] σ Q :=
  run_intro (Cl_mono lay1 d) [] 600 h
set_option maxRecDepth 50000 in
theorem bk_Re_takeMinusOrNumber_0 {d : Nat} {σ : St} {Q : Option AV → St → Prop} 
    (h : ((gI σ 5 2) = (45 : Int32) → Q (some (aI (0 : Int32))) (pI (pI σ 4 9 (-1 : Int32)) 4 6 (5 : Int32))) ∧ (¬ (gI σ 5 2) = (45 : Int32) → Cl lay1 d M_Re_takeAbove [aO 6 4] σ (rI fun r2 σ1 => Q (some (aI r2)) σ1))) : Cl lay1 (d + 1) M_Re_takeMinusOrNumber [aO 6 4] σ Q :=
  run_intro (Cl_mono lay1 d) [] 600 h
set_option maxRecDepth 50000 in
theorem bk_Re_takeAbove_0 {d : Nat} {σ : St} {Q : Option AV → St → Prop} 
    (h : ((gI σ 5 2) = (-4 : Int32) → ((gI (pI σ 4 10 ((gI σ 4 9) * (gL σ 5 5).toInt32)) 4 8) = (2 : Int32) → Cl lay1 d M_Re_endPart [aO 6 4, aI (2 : Int32), aI (gI (pI σ 4 10 ((gI σ 4 9) * (gL σ 5 5).toInt32)) 4 10), aI (1 : Int32)] (pI σ 4 10 ((gI σ 4 9) * (gL σ 5 5).toInt32)) (rI fun r2 σ1 => Q (some (aI r2)) σ1)) ∧ (¬ (gI (pI σ 4 10 ((gI σ 4 9) * (gL σ 5 5).toInt32)) 4 8) = (2 : Int32) → Q (some (aI (0 : Int32))) (pI (pI σ 4 10 ((gI σ 4 9) * (gL σ 5 5).toInt32)) 4 6 (6 : Int32)))) ∧ (¬ (gI σ 5 2) = (-4 : Int32) → Q (some (aI (2 : Int32))) σ)) : Cl lay1 (d + 1) M_Re_takeAbove [aO 6 4] σ Q :=
  run_intro (Cl_mono lay1 d) [] 600 h
set_option maxRecDepth 50000 in
theorem bk_Re_takeBelow_0 {d : Nat} {σ : St} {Q : Option AV → St → Prop} 
    (h : ((gI σ 5 2) = (-4 : Int32) → ((lg_cmp (gL σ 5 5) (0 : Int64)) = 0 → Q (some (aI (2 : Int32))) σ) ∧ (¬ (lg_cmp (gL σ 5 5) (0 : Int64)) = 0 → Cl lay1 d M_Re_endPart [aO 6 4, aI (gI σ 4 8), aI (gI σ 4 10), aI (gL σ 5 5).toInt32] σ (rI fun r2 σ1 => Q (some (aI r2)) σ1))) ∧ (¬ (gI σ 5 2) = (-4 : Int32) → Q (some (aI (2 : Int32))) σ)) : Cl lay1 (d + 1) M_Re_takeBelow [aO 6 4] σ Q :=
  run_intro (Cl_mono lay1 d) [] 600 h
set_option maxRecDepth 50000 in
theorem bk_Re_takeOpen_0 {d : Nat} {σ : St} {Q : Option AV → St → Prop} 
    (h : ((gI σ 5 2) = (40 : Int32) → ((gI σ 4 4) < (6 : Int32) → inb (gI σ 4 4) (gN σ 9) ∧ (inb (gI (pI σ 9 (ix (gI σ 4 4)) (gI σ 7 1)) 4 4) (gN (pI σ 9 (ix (gI σ 4 4)) (gI σ 7 1)) 10) ∧ (Q (some (aI (0 : Int32))) (pI (pI (pI (pI σ 9 (ix (gI σ 4 4)) (gI σ 7 1)) 10 (ix (gI (pI σ 9 (ix (gI σ 4 4)) (gI σ 7 1)) 4 4)) (gI (pI σ 9 (ix (gI σ 4 4)) (gI σ 7 1)) 4 11)) 4 4 ((gI (pI (pI σ 9 (ix (gI σ 4 4)) (gI σ 7 1)) 10 (ix (gI (pI σ 9 (ix (gI σ 4 4)) (gI σ 7 1)) 4 4)) (gI (pI σ 9 (ix (gI σ 4 4)) (gI σ 7 1)) 4 11)) 4 4) + (1 : Int32))) 4 6 (2 : Int32))))) ∧ (¬ (gI σ 4 4) < (6 : Int32) → Q (some (aI (3 : Int32))) σ)) ∧ (¬ (gI σ 5 2) = (40 : Int32) → Q (some (aI (2 : Int32))) σ)) : Cl lay1 (d + 1) M_Re_takeOpen [aO 6 4] σ Q :=
  run_intro (Cl_mono lay1 d) [] 600 h
set_option maxRecDepth 50000 in
theorem bk_Re_closes_0 {d : Nat} {σ : St} {Q : Option AV → St → Prop} 
    (h : ((gI σ 4 4) ≤ 0 → ((gI σ 5 2) = (59 : Int32) → ((1 : Int32) = 0 ∨ (1 : Int32) = 1) ∧ Q (some (aI (1 : Int32))) σ) ∧ (¬ (gI σ 5 2) = (59 : Int32) → ((0 : Int32) = 0 ∨ (0 : Int32) = 1) ∧ Q (some (aI (0 : Int32))) σ)) ∧ (¬ (gI σ 4 4) ≤ 0 → ((gI σ 5 2) = (41 : Int32) → ((1 : Int32) = 0 ∨ (1 : Int32) = 1) ∧ Q (some (aI (1 : Int32))) σ) ∧ (¬ (gI σ 5 2) = (41 : Int32) → ((0 : Int32) = 0 ∨ (0 : Int32) = 1) ∧ Q (some (aI (0 : Int32))) σ))) : Cl lay1 (d + 1) M_Re_closes [aO 6 4] σ Q :=
  run_intro (Cl_mono lay1 d) [] 600 h
set_option maxRecDepth 50000 in
theorem bk_Re_takeClose_0 {d : Nat} {σ : St} {Q : Option AV → St → Prop} 
    (h : ((gI σ 4 4) ≤ 0 → ((gI σ 7 4) = 0 → nn (sN σ) (Cl lay1 d M_Li_init [aO 2 (sN σ), aJ (gL (nw σ 2 (nF 2)) 4 7), aO 9 7, aO 2 (gR (nw σ 2 (nF 2)) 4 5)] (nw σ 2 (nF 2)) (rV fun σ1 => layC lay1 4 5 (sN σ) ∧ (Q (some (aI (0 : Int32))) (pI (pR σ1 4 5 (sN σ)) 4 6 (0 : Int32)))))) ∧ (¬ (gI σ 7 4) = 0 → Q (some (aI (4 : Int32))) σ)) ∧ (¬ (gI σ 4 4) ≤ 0 → inb (gI (pI σ 4 4 ((gI σ 4 4) - (1 : Int32))) 4 4) (gN (pI σ 4 4 ((gI σ 4 4) - (1 : Int32))) 9) ∧ (inb (gI (pI σ 4 4 ((gI σ 4 4) - (1 : Int32))) 4 4) (gN (pI σ 4 4 ((gI σ 4 4) - (1 : Int32))) 10) ∧ (Cl lay1 d M_Ro_repeat [aO 9 7, aI (gI (pI σ 4 4 ((gI σ 4 4) - (1 : Int32))) 9 (ix (gI (pI σ 4 4 ((gI σ 4 4) - (1 : Int32))) 4 4))), aI (gI (pI σ 4 4 ((gI σ 4 4) - (1 : Int32))) 10 (ix (gI (pI σ 4 4 ((gI σ 4 4) - (1 : Int32))) 4 4)))] (pI σ 4 4 ((gI σ 4 4) - (1 : Int32))) (rV fun σ2 => Q (some (aI (0 : Int32))) σ2))))) : Cl lay1 (d + 1) M_Re_takeClose [aO 6 4] σ Q :=
  run_intro (Cl_mono lay1 d) [] 600 h
set_option maxRecDepth 50000 in
theorem bk_Ri_hasPart_0 {d : Nat} {σ : St} {Q : Option AV → St → Prop} (x1 : Int32)
    (h : (x1 < 0 → ((0 : Int32) = 0 ∨ (0 : Int32) = 1) ∧ Q (some (aI (0 : Int32))) σ) ∧ (¬ x1 < 0 → ((gI σ 11 1) ≤ x1 → ((0 : Int32) = 0 ∨ (0 : Int32) = 1) ∧ Q (some (aI (0 : Int32))) σ) ∧ (¬ (gI σ 11 1) ≤ x1 → ((1 : Int32) = 0 ∨ (1 : Int32) = 1) ∧ Q (some (aI (1 : Int32))) σ))) : Cl lay1 (d + 1) M_Ri_hasPart [aO 8 11, aI x1] σ Q :=
  run_intro (Cl_mono lay1 d) [] 600 h
set_option maxRecDepth 50000 in
theorem bk_Ri_hasKick_0 {d : Nat} {σ : St} {Q : Option AV → St → Prop} (x1 : Int32)
    (h : (x1 < 0 → ((0 : Int32) = 0 ∨ (0 : Int32) = 1) ∧ Q (some (aI (0 : Int32))) σ) ∧ (¬ x1 < 0 → ((gI σ 11 6) ≤ x1 → ((0 : Int32) = 0 ∨ (0 : Int32) = 1) ∧ Q (some (aI (0 : Int32))) σ) ∧ (¬ (gI σ 11 6) ≤ x1 → ((1 : Int32) = 0 ∨ (1 : Int32) = 1) ∧ Q (some (aI (1 : Int32))) σ))) : Cl lay1 (d + 1) M_Ri_hasKick [aO 8 11, aI x1] σ Q :=
  run_intro (Cl_mono lay1 d) [] 600 h
set_option maxRecDepth 50000 in
theorem bk_Ri_hasLook_0 {d : Nat} {σ : St} {Q : Option AV → St → Prop} (x1 : Int32)
    (h : (x1 < 0 → ((0 : Int32) = 0 ∨ (0 : Int32) = 1) ∧ Q (some (aI (0 : Int32))) σ) ∧ (¬ x1 < 0 → ((gI σ 11 7) ≤ x1 → ((0 : Int32) = 0 ∨ (0 : Int32) = 1) ∧ Q (some (aI (0 : Int32))) σ) ∧ (¬ (gI σ 11 7) ≤ x1 → ((1 : Int32) = 0 ∨ (1 : Int32) = 1) ∧ Q (some (aI (1 : Int32))) σ))) : Cl lay1 (d + 1) M_Ri_hasLook [aO 8 11, aI x1] σ Q :=
  run_intro (Cl_mono lay1 d) [] 600 h
set_option maxRecDepth 50000 in
theorem bk_Ri_strengthAt_0 {d : Nat} {σ : St} {Q : Option AV → St → Prop} (x1 : Int32)
    (h : nn (gR σ 11 0) (inb x1 (gN σ (gR σ 11 0)) ∧ (nn (gR σ (gR σ 11 0) (ix x1)) (((gI σ (gR σ (gR σ 11 0) (ix x1)) 0) = (3 : Int32) → inb x1 (gN σ 28) ∧ (inb (gI σ 28 (ix x1)) (gN σ 13) ∧ (Q (some (aO 0 (gR σ 13 (ix (gI σ 28 (ix x1)))))) σ))) ∧ (¬ (gI σ (gR σ (gR σ 11 0) (ix x1)) 0) = (3 : Int32) → nn (gR σ 11 0) (inb x1 (gN σ (gR σ 11 0)) ∧ (nn (gR σ (gR σ 11 0) (ix x1)) (Q (some (aO 0 (ldR lay1 σ (gR σ (gR σ 11 0) (ix x1)) 1))) σ)))))))) : Cl lay1 (d + 1) M_Ri_strengthAt [aO 8 11, aI x1] σ Q :=
  run_intro (Cl_mono lay1 d) [] 600 h
set_option maxRecDepth 50000 in
theorem bk_Ri_become_0 {d : Nat} {σ : St} {Q : Option AV → St → Prop} (x1 : Nat)
    (h : (x1 = 0 → Q none σ) ∧ (¬ x1 = 0 → nn x1 (layC lay1 11 0 (ldR lay1 σ x1 1) ∧ (nn x1 (nn (ldR lay1 (pR σ 11 0 (ldR lay1 σ x1 1)) x1 1) (Wp lay1 rtOf (Cl lay1 d) k_Ri_become 0 Q (34, [aO 8 11, aO 2 x1, aI (0 : Int32)], [], (pI (pI (pI (pR σ 11 0 (ldR lay1 σ x1 1)) 11 1 (Int32.ofNat (gN (pR σ 11 0 (ldR lay1 σ x1 1)) (ldR lay1 (pR σ 11 0 (ldR lay1 σ x1 1)) x1 1)))) 11 6 (0 : Int32)) 11 7 (0 : Int32))))))))) : Cl lay1 (d + 1) M_Ri_become [aO 8 11, aO 2 x1] σ Q :=
  run_intro (Cl_mono lay1 d) [34] 600 h
set_option maxRecDepth 50000 in
theorem bk_Ri_become_34 {d : Nat} {σ : St} {Q : Option AV → St → Prop} (u1 : AV) (x2 : Int32)
    (h : ((gI σ 11 1) ≤ x2 → Q none σ) ∧ (¬ (gI σ 11 1) ≤ x2 → nn (gR σ 11 0) (inb x2 (gN σ (gR σ 11 0)) ∧ (nn (gR σ (gR σ 11 0) (ix x2)) (((gI σ (gR σ (gR σ 11 0) (ix x2)) 0) = (3 : Int32) → ((12 : Int32) ≤ (gI σ 11 6) → nn (gR σ 11 0) (inb x2 (gN σ (gR σ 11 0)) ∧ (nn (gR σ (gR σ 11 0) (ix x2)) (((gI σ (gR σ (gR σ 11 0) (ix x2)) 0) = (4 : Int32) → ((12 : Int32) ≤ (gI σ 11 7) → Wp lay1 rtOf (Cl lay1 d) k_Ri_become 0 Q (34, [aO 8 11, (unJ u1), aI (x2 + (1 : Int32))], [], σ)) ∧ (¬ (12 : Int32) ≤ (gI σ 11 7) → inb (gI σ 11 7) (gN σ 27) ∧ (Wp lay1 rtOf (Cl lay1 d) k_Ri_become 0 Q (34, [aO 8 11, (unJ u1), aI (x2 + (1 : Int32))], [], (pI (pI σ 27 (ix (gI σ 11 7)) x2) 11 7 ((gI (pI σ 27 (ix (gI σ 11 7)) x2) 11 7) + (1 : Int32))))))) ∧ (¬ (gI σ (gR σ (gR σ 11 0) (ix x2)) 0) = (4 : Int32) → Wp lay1 rtOf (Cl lay1 d) k_Ri_become 0 Q (34, [aO 8 11, (unJ u1), aI (x2 + (1 : Int32))], [], σ)))))) ∧ (¬ (12 : Int32) ≤ (gI σ 11 6) → inb x2 (gN σ 28) ∧ (inb (gI (pI σ 28 (ix x2) (gI σ 11 6)) 11 6) (gN (pI σ 28 (ix x2) (gI σ 11 6)) 26) ∧ (inb (gI (pI (pI σ 28 (ix x2) (gI σ 11 6)) 26 (ix (gI (pI σ 28 (ix x2) (gI σ 11 6)) 11 6)) x2) 11 6) (gN (pI (pI σ 28 (ix x2) (gI σ 11 6)) 26 (ix (gI (pI σ 28 (ix x2) (gI σ 11 6)) 11 6)) x2) 13) ∧ (nn (gR (pI (pI σ 28 (ix x2) (gI σ 11 6)) 26 (ix (gI (pI σ 28 (ix x2) (gI σ 11 6)) 11 6)) x2) 13 (ix (gI (pI (pI σ 28 (ix x2) (gI σ 11 6)) 26 (ix (gI (pI σ 28 (ix x2) (gI σ 11 6)) 11 6)) x2) 11 6))) (Cl lay1 d M_Fr_put [aO 0 (gR (pI (pI σ 28 (ix x2) (gI σ 11 6)) 26 (ix (gI (pI σ 28 (ix x2) (gI σ 11 6)) 11 6)) x2) 13 (ix (gI (pI (pI σ 28 (ix x2) (gI σ 11 6)) 26 (ix (gI (pI σ 28 (ix x2) (gI σ 11 6)) 11 6)) x2) 11 6))), aJ (0 : Int64), aJ (1 : Int64)] (pI (pI σ 28 (ix x2) (gI σ 11 6)) 26 (ix (gI (pI σ 28 (ix x2) (gI σ 11 6)) 11 6)) x2) (rV fun σ1 => nn (gR (pI σ1 11 6 ((gI σ1 11 6) + (1 : Int32))) 11 0) (inb x2 (gN (pI σ1 11 6 ((gI σ1 11 6) + (1 : Int32))) (gR (pI σ1 11 6 ((gI σ1 11 6) + (1 : Int32))) 11 0)) ∧ (nn (gR (pI σ1 11 6 ((gI σ1 11 6) + (1 : Int32))) (gR (pI σ1 11 6 ((gI σ1 11 6) + (1 : Int32))) 11 0) (ix x2)) (((gI (pI σ1 11 6 ((gI σ1 11 6) + (1 : Int32))) (gR (pI σ1 11 6 ((gI σ1 11 6) + (1 : Int32))) (gR (pI σ1 11 6 ((gI σ1 11 6) + (1 : Int32))) 11 0) (ix x2)) 0) = (4 : Int32) → ((12 : Int32) ≤ (gI (pI σ1 11 6 ((gI σ1 11 6) + (1 : Int32))) 11 7) → Wp lay1 rtOf (Cl lay1 d) k_Ri_become 0 Q (34, [aO 8 11, (unJ u1), aI (x2 + (1 : Int32))], [], (pI σ1 11 6 ((gI σ1 11 6) + (1 : Int32))))) ∧ (¬ (12 : Int32) ≤ (gI (pI σ1 11 6 ((gI σ1 11 6) + (1 : Int32))) 11 7) → inb (gI (pI σ1 11 6 ((gI σ1 11 6) + (1 : Int32))) 11 7) (gN (pI σ1 11 6 ((gI σ1 11 6) + (1 : Int32))) 27) ∧ (Wp lay1 rtOf (Cl lay1 d) k_Ri_become 0 Q (34, [aO 8 11, (unJ u1), aI (x2 + (1 : Int32))], [], (pI (pI (pI σ1 11 6 ((gI σ1 11 6) + (1 : Int32))) 27 (ix (gI (pI σ1 11 6 ((gI σ1 11 6) + (1 : Int32))) 11 7)) x2) 11 7 ((gI (pI (pI σ1 11 6 ((gI σ1 11 6) + (1 : Int32))) 27 (ix (gI (pI σ1 11 6 ((gI σ1 11 6) + (1 : Int32))) 11 7)) x2) 11 7) + (1 : Int32))))))) ∧ (¬ (gI (pI σ1 11 6 ((gI σ1 11 6) + (1 : Int32))) (gR (pI σ1 11 6 ((gI σ1 11 6) + (1 : Int32))) (gR (pI σ1 11 6 ((gI σ1 11 6) + (1 : Int32))) 11 0) (ix x2)) 0) = (4 : Int32) → Wp lay1 rtOf (Cl lay1 d) k_Ri_become 0 Q (34, [aO 8 11, (unJ u1), aI (x2 + (1 : Int32))], [], (pI σ1 11 6 ((gI σ1 11 6) + (1 : Int32))))))))))))))) ∧ (¬ (gI σ (gR σ (gR σ 11 0) (ix x2)) 0) = (3 : Int32) → nn (gR σ 11 0) (inb x2 (gN σ (gR σ 11 0)) ∧ (nn (gR σ (gR σ 11 0) (ix x2)) (((gI σ (gR σ (gR σ 11 0) (ix x2)) 0) = (4 : Int32) → ((12 : Int32) ≤ (gI σ 11 7) → Wp lay1 rtOf (Cl lay1 d) k_Ri_become 0 Q (34, [aO 8 11, (unJ u1), aI (x2 + (1 : Int32))], [], σ)) ∧ (¬ (12 : Int32) ≤ (gI σ 11 7) → inb (gI σ 11 7) (gN σ 27) ∧ (Wp lay1 rtOf (Cl lay1 d) k_Ri_become 0 Q (34, [aO 8 11, (unJ u1), aI (x2 + (1 : Int32))], [], (pI (pI σ 27 (ix (gI σ 11 7)) x2) 11 7 ((gI (pI σ 27 (ix (gI σ 11 7)) x2) 11 7) + (1 : Int32))))))) ∧ (¬ (gI σ (gR σ (gR σ 11 0) (ix x2)) 0) = (4 : Int32) → Wp lay1 rtOf (Cl lay1 d) k_Ri_become 0 Q (34, [aO 8 11, (unJ u1), aI (x2 + (1 : Int32))], [], σ))))))))))) : Wp lay1 rtOf (Cl lay1 d) k_Ri_become 0 Q (34, [aO 8 11, u1, aI x2], [], σ) :=
  run_intro (Cl_mono lay1 d) [34] 600 h
set_option maxRecDepth 50000 in
theorem bk_C_feed_0 {d : Nat} {σ : St} {Q : Option AV → St → Prop} (x1 : Int32) (x2 : Int64)
    (h : (x1 < (1 : Int32) → Q (some (aI (-1 : Int32))) σ) ∧ (¬ x1 < (1 : Int32) → (x1 ≤ (8 : Int32) → (x1 ≤ ((1500 : Int32) - (gI σ 5 1)) → Wp lay1 rtOf (Cl lay1 d) k_C_feed 1 Q (39, [aO 11 3, aI x1, aJ x2, aZ, aI (x1 - (1 : Int32))], [], σ)) ∧ (¬ x1 ≤ ((1500 : Int32) - (gI σ 5 1)) → Q (some (aI (-3 : Int32))) σ)) ∧ (¬ x1 ≤ (8 : Int32) → Q (some (aI (-1 : Int32))) σ))) : Cl lay1 (d + 1) M_C_feed [aO 11 3, aI x1, aJ x2] σ Q :=
  run_intro (Cl_mono lay1 d) [39] 600 h
set_option maxRecDepth 50000 in
theorem bk_C_feed_39 {d : Nat} {σ : St} {Q : Option AV → St → Prop} (u1 : AV) (x2 : Int64) (x4 : Int32)
    (h : (x4 < 0 → Q (some (aI (gI σ 5 1))) σ) ∧ (¬ x4 < 0 → Cl lay1 d M_Te_append [aO 10 5, aI (((x2.toUInt64 >>> (((8 : Int32) * x4).toInt64.toUInt64 &&& Int64.toUInt64 63)).toInt64).toInt32 &&& (255 : Int32))] σ (rV fun σ1 => Wp lay1 rtOf (Cl lay1 d) k_C_feed 1 Q (39, [aO 11 3, u1, aJ x2, aZ, aI (x4 + (-1 : Int32))], [], σ1)))) : Wp lay1 rtOf (Cl lay1 d) k_C_feed 1 Q (39, [aO 11 3, u1, aJ x2, aZ, aI x4], [], σ) :=
  run_intro (Cl_mono lay1 d) [39] 600 h
set_option maxRecDepth 50000 in
theorem bk_C_read_0 {d : Nat} {σ : St} {Q : Option AV → St → Prop} 
    (h : Cl lay1 d M_Re_findFault [aO 6 4] σ (rI fun r2 σ1 => Cl lay1 d M_Te_empty [aO 10 5] σ1 (rV fun σ3 => (r2 = 0 → Cl lay1 d M_Re_lastLine [aO 6 4] (pI σ3 3 4 (-4 : Int32)) (rO 2 fun j5 σ4 => Cl lay1 d M_Ri_become [aO 8 11, aO 2 j5] σ4 (rV fun σ6 => Cl lay1 d M_La_forget [aO 1 68] σ6 (rV fun σ7 => Q (some (aI (gI σ7 11 1))) σ7)))) ∧ (¬ r2 = 0 → Cl lay1 d M_Re_faultPlace [aO 6 4] σ3 (rI fun r9 σ8 => Q (some (aI ((-10 : Int32) - r2))) (pI σ8 3 4 r9)))))) : Cl lay1 (d + 1) M_C_read [aO 11 3] σ Q :=
  run_intro (Cl_mono lay1 d) [] 600 h
set_option maxRecDepth 50000 in
theorem bk_C_place_0 {d : Nat} {σ : St} {Q : Option AV → St → Prop} 
    (h : Q (some (aI (gI σ 3 4))) σ) : Cl lay1 (d + 1) M_C_place [aO 11 3] σ Q :=
  run_intro (Cl_mono lay1 d) [] 600 h
set_option maxRecDepth 50000 in
theorem bk_C_part_0 {d : Nat} {σ : St} {Q : Option AV → St → Prop} (x1 : Int32) (x2 : Int32)
    (h : Cl lay1 d M_Ri_hasPart [aO 8 11, aI x1] σ (rI fun r2 σ1 => (r2 = 0 → Q (some (aI (-1 : Int32))) σ1) ∧ (¬ r2 = 0 → (x2 < 0 → Q (some (aI (-1 : Int32))) σ1) ∧ (¬ x2 < 0 → (x2 ≤ (2 : Int32) → (x2 = 0 → nn (gR σ1 11 0) (inb x1 (gN σ1 (gR σ1 11 0)) ∧ (nn (gR σ1 (gR σ1 11 0) (ix x1)) (Q (some (aI (gI σ1 (gR σ1 (gR σ1 11 0) (ix x1)) 0))) σ1)))) ∧ (¬ x2 = 0 → Cl lay1 d M_Ri_strengthAt [aO 8 11, aI x1] σ1 (rO 0 fun j4 σ3 => nn j4 (Cl lay1 d M_Fr_side [aO 0 j4, aI (x2 - (1 : Int32))] σ3 (rI fun r6 σ5 => Q (some (aI r6)) σ5))))) ∧ (¬ x2 ≤ (2 : Int32) → Q (some (aI (-1 : Int32))) σ1))))) : Cl lay1 (d + 1) M_C_part [aO 11 3, aI x1, aI x2] σ Q :=
  run_intro (Cl_mono lay1 d) [] 600 h
set_option maxRecDepth 50000 in
theorem bk_C_kick_0 {d : Nat} {σ : St} {Q : Option AV → St → Prop} (x1 : Int32) (x2 : Int32) (x3 : Int32)
    (h : Cl lay1 d M_Ri_hasKick [aO 8 11, aI x1] σ (rI fun r2 σ1 => (r2 = 0 → Q (some (aI (-1 : Int32))) σ1) ∧ (¬ r2 = 0 → (x2 < (-10000 : Int32) → Q (some (aI (-1 : Int32))) σ1) ∧ (¬ x2 < (-10000 : Int32) → ((10000 : Int32) < x2 → Q (some (aI (-1 : Int32))) σ1) ∧ (¬ (10000 : Int32) < x2 → (x3 < (1 : Int32) → Q (some (aI (-1 : Int32))) σ1) ∧ (¬ x3 < (1 : Int32) → (x3 ≤ (10000 : Int32) → inb x1 (gN σ1 13) ∧ (nn (gR σ1 13 (ix x1)) (Cl lay1 d M_Fr_put [aO 0 (gR σ1 13 (ix x1)), aJ x2.toInt64, aJ x3.toInt64] σ1 (rV fun σ3 => Q (some (aI (0 : Int32))) σ3)))) ∧ (¬ x3 ≤ (10000 : Int32) → Q (some (aI (-1 : Int32))) σ1))))))) : Cl lay1 (d + 1) M_C_kick [aO 11 3, aI x1, aI x2, aI x3] σ Q :=
  run_intro (Cl_mono lay1 d) [] 600 h
set_option maxRecDepth 50000 in
theorem bk_C_table_0 {d : Nat} {σ : St} {Q : Option AV → St → Prop} (x1 : Int32) (x2 : Int32)
    (h : Cl lay1 d M_Ri_hasPart [aO 8 11, aI x1] σ (rI fun r2 σ1 => (r2 = 0 → Q (some (aI (-1 : Int32))) σ1) ∧ (¬ r2 = 0 → (x2 < 0 → Q (some (aI (-1 : Int32))) σ1) ∧ (¬ x2 < 0 → (x2 ≤ (200 : Int32) → Cl lay1 d M_Op_reckonTable [aO 4 29, aO 8 11, aI x1, aI x2] σ1 (rV fun σ3 => Cl lay1 d M_Op_isBig [aO 4 29] σ3 (rI fun r5 σ4 => (r5 = 0 → Cl lay1 d M_Op_tellTable [aO 4 29] σ4 (rI fun r7 σ6 => Q (some (aI r7)) σ6)) ∧ (¬ r5 = 0 → Q (some (aI (-5 : Int32))) σ4)))) ∧ (¬ x2 ≤ (200 : Int32) → Q (some (aI (-1 : Int32))) σ1))))) : Cl lay1 (d + 1) M_C_table [aO 11 3, aI x1, aI x2] σ Q :=
  run_intro (Cl_mono lay1 d) [] 600 h
set_option maxRecDepth 50000 in
theorem bk_C_round_0 {d : Nat} {σ : St} {Q : Option AV → St → Prop} (x1 : Int32)
    (h : Cl lay1 d M_Ri_hasPart [aO 8 11, aI x1] σ (rI fun r2 σ1 => (r2 = 0 → Q (some (aI (-1 : Int32))) σ1) ∧ (¬ r2 = 0 → Cl lay1 d M_Op_reckonTable [aO 4 29, aO 8 11, aI x1, aI (gI σ1 11 1)] σ1 (rV fun σ3 => Cl lay1 d M_Op_stability [aO 4 29] σ3 (rI fun r5 σ4 => (r5 = (-5 : Int32) → Q (some (aI r5)) σ4) ∧ (¬ r5 = (-5 : Int32) → Cl lay1 d M_Op_tellTable [aO 4 29] σ4 (rI fun r7 σ6 => Q (some (aI r5)) σ6))))))) : Cl lay1 (d + 1) M_C_round [aO 11 3, aI x1] σ Q :=
  run_intro (Cl_mono lay1 d) [] 600 h
set_option maxRecDepth 50000 in
theorem bk_C_widths_0 {d : Nat} {σ : St} {Q : Option AV → St → Prop} (x1 : Int32)
    (h : Cl lay1 d M_Ri_hasPart [aO 8 11, aI x1] σ (rI fun r2 σ1 => (r2 = 0 → Q (some (aI (-1 : Int32))) σ1) ∧ (¬ r2 = 0 → Cl lay1 d M_Op_reckonTable [aO 4 29, aO 8 11, aI x1, aI (gI σ1 11 1)] σ1 (rV fun σ3 => Cl lay1 d M_Op_stability [aO 4 29] σ3 (rI fun r5 σ4 => (r5 = (-5 : Int32) → Q (some (aI (-5 : Int32))) σ4) ∧ (¬ r5 = (-5 : Int32) → (r5 = (2 : Int32) → Cl lay1 d M_Op_reckonMiddleWidth [aO 4 29] σ4 (rV fun σ6 => Cl lay1 d M_Op_isBig [aO 4 29] σ6 (rI fun r8 σ7 => (r8 = 0 → Cl lay1 d M_Op_tellWidths [aO 4 29] σ7 (rI fun r10 σ9 => Q (some (aI r10)) σ9)) ∧ (¬ r8 = 0 → Q (some (aI (-5 : Int32))) σ7)))) ∧ (¬ r5 = (2 : Int32) → Q (some (aI (-2 : Int32))) σ4))))))) : Cl lay1 (d + 1) M_C_widths [aO 11 3, aI x1] σ Q :=
  run_intro (Cl_mono lay1 d) [] 600 h
set_option maxRecDepth 50000 in
theorem bk_C_turns_0 {d : Nat} {σ : St} {Q : Option AV → St → Prop} 
    (h : Cl lay1 d M_Ri_hasPart [aO 8 11, aI (0 : Int32)] σ (rI fun r2 σ1 => (r2 = 0 → Q (some (aI (-1 : Int32))) σ1) ∧ (¬ r2 = 0 → Cl lay1 d M_Op_reckonTable [aO 4 29, aO 8 11, aI (0 : Int32), aI (gI σ1 11 1)] σ1 (rV fun σ3 => Cl lay1 d M_Op_stability [aO 4 29] σ3 (rI fun r5 σ4 => (r5 = (-5 : Int32) → Q (some (aI (-5 : Int32))) σ4) ∧ (¬ r5 = (-5 : Int32) → (r5 = (2 : Int32) → Cl lay1 d M_Op_roundsUntilBack [aO 4 29] σ4 (rI fun r7 σ6 => Q (some (aI r7)) σ6)) ∧ (¬ r5 = (2 : Int32) → Q (some (aI (-2 : Int32))) σ4))))))) : Cl lay1 (d + 1) M_C_turns [aO 11 3] σ Q :=
  run_intro (Cl_mono lay1 d) [] 600 h
set_option maxRecDepth 50000 in
theorem bk_C_way_0 {d : Nat} {σ : St} {Q : Option AV → St → Prop} (x1 : Int32)
    (h : Cl lay1 d M_Ri_hasPart [aO 8 11, aI x1] σ (rI fun r2 σ1 => (r2 = 0 → Q (some (aI (-1 : Int32))) σ1) ∧ (¬ r2 = 0 → Cl lay1 d M_Op_closeWay [aO 4 29, aO 8 11, aO 21 13, aI x1] σ1 (rI fun r4 σ3 => (r4 = 0 → Cl lay1 d M_Op_tellWay [aO 4 29] σ3 (rI fun r6 σ5 => Q (some (aI r6)) σ5)) ∧ (¬ r4 = 0 → Q (some (aI r4)) σ3))))) : Cl lay1 (d + 1) M_C_way [aO 11 3, aI x1] σ Q :=
  run_intro (Cl_mono lay1 d) [] 600 h
set_option maxRecDepth 50000 in
theorem bk_C_answer_0 {d : Nat} {σ : St} {Q : Option AV → St → Prop} (x1 : Int32) (x2 : Int32)
    (h : Cl lay1 d M_Ri_hasLook [aO 8 11, aI x1] σ (rI fun r2 σ1 => (r2 = 0 → Q (some (aI (-1 : Int32))) σ1) ∧ (¬ r2 = 0 → Cl lay1 d M_Ri_hasKick [aO 8 11, aI x2] σ1 (rI fun r4 σ3 => (r4 = 0 → Q (some (aI (-1 : Int32))) σ3) ∧ (¬ r4 = 0 → Cl lay1 d M_Op_onlyKick [aO 4 29, aI x2] σ3 (rO 21 fun j6 σ5 => inb x1 (gN σ5 27) ∧ (Cl lay1 d M_Op_closeWay [aO 4 29, aO 8 11, aO 21 j6, aI (gI σ5 27 (ix x1))] σ5 (rI fun r8 σ7 => (r8 = 0 → Cl lay1 d M_Op_tellWayX [aO 4 29] σ7 (rI fun r10 σ9 => Q (some (aI r10)) σ9)) ∧ (¬ r8 = 0 → Q (some (aI r8)) σ7))))))))) : Cl lay1 (d + 1) M_C_answer [aO 11 3, aI x1, aI x2] σ Q :=
  run_intro (Cl_mono lay1 d) [] 600 h
set_option maxRecDepth 50000 in
theorem bk_C_bump_0 {d : Nat} {σ : St} {Q : Option AV → St → Prop} (x1 : Int32) (x2 : Int32) (x3 : Int32)
    (h : Cl lay1 d M_Ri_hasKick [aO 8 11, aI x1] σ (rI fun r2 σ1 => (r2 = 0 → Q (some (aI (-1 : Int32))) σ1) ∧ (¬ r2 = 0 → Cl lay1 d M_Ri_hasKick [aO 8 11, aI x3] σ1 (rI fun r4 σ3 => (r4 = 0 → Q (some (aI (-1 : Int32))) σ3) ∧ (¬ r4 = 0 → (x2 ≤ x1 → Q (some (aI (-1 : Int32))) σ3) ∧ (¬ x2 ≤ x1 → (x2 < x3 → inb x1 (gN σ3 26) ∧ (inb x2 (gN σ3 26) ∧ (inb x3 (gN σ3 26) ∧ (Cl lay1 d M_Op_closeBump [aO 4 29, aO 8 11, aI (gI σ3 26 (ix x1)), aI (gI σ3 26 (ix x2)), aI (gI σ3 26 (ix x3))] σ3 (rI fun r6 σ5 => (r6 = 0 → Cl lay1 d M_Op_tellBump [aO 4 29] σ5 (rI fun r8 σ7 => Q (some (aI r8)) σ7)) ∧ (¬ r6 = 0 → Q (some (aI r6)) σ5)))))) ∧ (¬ x2 < x3 → Q (some (aI (-1 : Int32))) σ3))))))) : Cl lay1 (d + 1) M_C_bump [aO 11 3, aI x1, aI x2, aI x3] σ Q :=
  run_intro (Cl_mono lay1 d) [] 600 h
set_option maxRecDepth 50000 in
theorem bk_C_number_0 {d : Nat} {σ : St} {Q : Option AV → St → Prop} (x1 : Int32) (x2 : Int32)
    (h : (x1 < 0 → Q (some (aI (-1 : Int32))) σ) ∧ (¬ x1 < 0 → (x2 < 0 → Q (some (aI (-1 : Int32))) σ) ∧ (¬ x2 < 0 → (x2 ≤ (1 : Int32) → Cl lay1 d M_Op_hasTold [aO 4 29, aI x1] σ (rI fun r2 σ1 => (r2 = 0 → Q (some (aI (-4 : Int32))) σ1) ∧ (¬ r2 = 0 → inb x1 (gN σ1 51) ∧ (nn (gR σ1 51 (ix x1)) (Cl lay1 d M_Fr_side [aO 0 (gR σ1 51 (ix x1)), aI x2] σ1 (rI fun r4 σ3 => Q (some (aI r4)) σ3)))))) ∧ (¬ x2 ≤ (1 : Int32) → Q (some (aI (-1 : Int32))) σ)))) : Cl lay1 (d + 1) M_C_number [aO 11 3, aI x1, aI x2] σ Q :=
  run_intro (Cl_mono lay1 d) [] 600 h
set_option maxRecDepth 50000 in
theorem bk_C_grid_0 {d : Nat} {σ : St} {Q : Option AV → St → Prop} (x1 : Int32)
    (h : Cl lay1 d M_C_isPrime [aI x1] σ (rI fun r2 σ1 => (r2 = 0 → Q (some (aI (-1 : Int32))) σ1) ∧ (¬ r2 = 0 → Cl lay1 d M_Ri_hasPart [aO 8 11, aI (0 : Int32)] σ1 (rI fun r4 σ3 => (r4 = 0 → Q (some (aI (-1 : Int32))) σ3) ∧ (¬ r4 = 0 → Cl lay1 d M_La_prepare [aO 1 68, aO 8 11, aI x1] σ3 (rI fun r6 σ5 => (r6 = 0 → Q (some (aI (-2 : Int32))) σ5) ∧ (¬ r6 = 0 → Cl lay1 d M_La_followAll [aO 1 68, aO 8 11] σ5 (rV fun σ7 => Q (some (aI (gI σ7 68 5))) σ7)))))))) : Cl lay1 (d + 1) M_C_grid [aO 11 3, aI x1] σ Q :=
  run_intro (Cl_mono lay1 d) [] 600 h
set_option maxRecDepth 50000 in
theorem bk_C_rows_0 {d : Nat} {σ : St} {Q : Option AV → St → Prop} (x1 : Int32)
    (h : (x1 < 0 → Q (some (aI (-1 : Int32))) σ) ∧ (¬ x1 < 0 → (x1 ≤ (3 : Int32) → ((gI σ 68 3) = 0 → Q (some (aI (-4 : Int32))) σ) ∧ (¬ (gI σ 68 3) = 0 → Cl lay1 d M_La_fact [aO 1 68, aI x1] σ (rI fun r2 σ1 => Q (some (aI r2)) σ1))) ∧ (¬ x1 ≤ (3 : Int32) → Q (some (aI (-1 : Int32))) σ))) : Cl lay1 (d + 1) M_C_rows [aO 11 3, aI x1] σ Q :=
  run_intro (Cl_mono lay1 d) [] 600 h
set_option maxRecDepth 50000 in
theorem bk_C_after_0 {d : Nat} {σ : St} {Q : Option AV → St → Prop} (x1 : Int32) (x2 : Int32) (x3 : Int32) (x4 : Int32)
    (h : Cl lay1 d M_C_isPrime [aI x1] σ (rI fun r2 σ1 => (r2 = 0 → Q (some (aI (-1 : Int32))) σ1) ∧ (¬ r2 = 0 → Cl lay1 d M_Ri_hasPart [aO 8 11, aI (0 : Int32)] σ1 (rI fun r4 σ3 => (r4 = 0 → Q (some (aI (-1 : Int32))) σ3) ∧ (¬ r4 = 0 → (x2 < 0 → Q (some (aI (-1 : Int32))) σ3) ∧ (¬ x2 < 0 → (x1 ≤ x2 → Q (some (aI (-1 : Int32))) σ3) ∧ (¬ x1 ≤ x2 → (x3 < 0 → Q (some (aI (-1 : Int32))) σ3) ∧ (¬ x3 < 0 → (x1 ≤ x3 → Q (some (aI (-1 : Int32))) σ3) ∧ (¬ x1 ≤ x3 → (x4 < 0 → Q (some (aI (-1 : Int32))) σ3) ∧ (¬ x4 < 0 → (x4 ≤ (1000 : Int32) → Cl lay1 d M_La_prepare [aO 1 68, aO 8 11, aI x1] σ3 (rI fun r6 σ5 => (r6 = 0 → Q (some (aI (-2 : Int32))) σ5) ∧ (¬ r6 = 0 → Wp lay1 rtOf (Cl lay1 d) k_C_after 1 Q (81, [aO 11 3, aI x1, aI x2, aI x3, aI x4, aI ((x2 * x1) + x3), aI (0 : Int32)], [], σ5)))) ∧ (¬ x4 ≤ (1000 : Int32) → Q (some (aI (-1 : Int32))) σ3))))))))))) : Cl lay1 (d + 1) M_C_after [aO 11 3, aI x1, aI x2, aI x3, aI x4] σ Q :=
  run_intro (Cl_mono lay1 d) [81] 600 h
set_option maxRecDepth 50000 in
theorem bk_C_after_81 {d : Nat} {σ : St} {Q : Option AV → St → Prop} (u1 : AV) (u2 : AV) (u3 : AV) (x4 : Int32) (x5 : Int32) (x6 : Int32)
    (h : (x4 ≤ x6 → Q (some (aI x5)) σ) ∧ (¬ x4 ≤ x6 → Cl lay1 d M_La_next [aO 1 68, aO 8 11, aI x5] σ (rI fun r2 σ1 => Wp lay1 rtOf (Cl lay1 d) k_C_after 1 Q (81, [aO 11 3, u1, u2, u3, aI x4, aI r2, aI (x6 + (1 : Int32))], [], σ1)))) : Wp lay1 rtOf (Cl lay1 d) k_C_after 1 Q (81, [aO 11 3, u1, u2, u3, aI x4, aI x5, aI x6], [], σ) :=
  run_intro (Cl_mono lay1 d) [81] 600 h
set_option maxRecDepth 50000 in
theorem bk_C_count_0 {d : Nat} {σ : St} {Q : Option AV → St → Prop} (x1 : Int32)
    (h : (x1 = (0 : Int32) → Q (some (aI (gI σ 5 1))) σ) ∧ (¬ x1 = (0 : Int32) → (x1 = (1 : Int32) → Q (some (aI (gI σ 11 1))) σ) ∧ (¬ x1 = (1 : Int32) → (x1 = (2 : Int32) → Q (some (aI (gI σ 11 6))) σ) ∧ (¬ x1 = (2 : Int32) → (x1 = (3 : Int32) → Q (some (aI (gI σ 11 7))) σ) ∧ (¬ x1 = (3 : Int32) → (x1 = (4 : Int32) → Q (some (aI (gI σ 29 13))) σ) ∧ (¬ x1 = (4 : Int32) → Q (some (aI (-1 : Int32))) σ)))))) : Cl lay1 (d + 1) M_C_count [aO 11 3, aI x1] σ Q :=
  run_intro (Cl_mono lay1 d) [] 600 h
set_option maxRecDepth 50000 in
theorem bk_C_isPrime_0 {d : Nat} {σ : St} {Q : Option AV → St → Prop} (x0 : Int32)
    (h : Wp lay1 rtOf (Cl lay1 d) k_C_isPrime 2 Q (2, [aI x0, aI (0 : Int32)], [], σ)) : Cl lay1 (d + 1) M_C_isPrime [aI x0] σ Q :=
  run_intro (Cl_mono lay1 d) [2] 600 h
set_option maxRecDepth 50000 in
theorem bk_C_isPrime_2 {d : Nat} {σ : St} {Q : Option AV → St → Prop} (x0 : Int32) (x1 : Int32)
    (h : ((Int32.ofNat (gN σ 2)) ≤ x1 → ((0 : Int32) = 0 ∨ (0 : Int32) = 1) ∧ Q (some (aI (0 : Int32))) σ) ∧ (¬ (Int32.ofNat (gN σ 2)) ≤ x1 → inb x1 (gN σ 2) ∧ (((gI σ 2 (ix x1)) = x0 → ((1 : Int32) = 0 ∨ (1 : Int32) = 1) ∧ Q (some (aI (1 : Int32))) σ) ∧ (¬ (gI σ 2 (ix x1)) = x0 → Wp lay1 rtOf (Cl lay1 d) k_C_isPrime 2 Q (2, [aI x0, aI (x1 + (1 : Int32))], [], σ))))) : Wp lay1 rtOf (Cl lay1 d) k_C_isPrime 2 Q (2, [aI x0, aI x1], [], σ) :=
  run_intro (Cl_mono lay1 d) [2] 600 h
set_option maxRecDepth 50000 in
theorem bk_C_commonDivisor_0 {d : Nat} {σ : St} {Q : Option AV → St → Prop} (x0 : Int64) (x2 : Int64)
    (h : Wp lay1 rtOf (Cl lay1 d) k_C_commonDivisor 3 Q (9, [aJ x0, aZ, aJ x2, aZ, aJ x0, aZ, aJ x2, aZ, aI (0 : Int32), aZ, aZ], [], σ)) : Cl lay1 (d + 1) M_C_commonDivisor [aJ x0, aJ x2] σ Q :=
  run_intro (Cl_mono lay1 d) [9] 600 h
set_option maxRecDepth 50000 in
theorem bk_C_commonDivisor_9 {d : Nat} {σ : St} {Q : Option AV → St → Prop} (u0 : AV) (u1 : AV) (u2 : AV) (u3 : AV) (x4 : Int64) (x6 : Int64) (x8 : Int32) (u9 : AV) (u10 : AV)
    (h : ((200 : Int32) ≤ x8 → Q (some (aJ x4)) σ) ∧ (¬ (200 : Int32) ≤ x8 → ((lg_cmp x6 (0 : Int64)) = 0 → Q (some (aJ x4)) σ) ∧ (¬ (lg_cmp x6 (0 : Int64)) = 0 → ¬ x6 = 0 ∧ (Wp lay1 rtOf (Cl lay1 d) k_C_commonDivisor 3 Q (9, [u0, u1, u2, (unJ u3), aJ x6, aZ, aJ (x4 - x4 / x6 * x6), aZ, aI (x8 + (1 : Int32)), aJ (x4 - x4 / x6 * x6), aZ], [], σ))))) : Wp lay1 rtOf (Cl lay1 d) k_C_commonDivisor 3 Q (9, [u0, u1, u2, u3, aJ x4, aZ, aJ x6, aZ, aI x8, u9, u10], [], σ) :=
  run_intro (Cl_mono lay1 d) [9] 600 h
