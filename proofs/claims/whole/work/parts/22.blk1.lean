set_option maxRecDepth 50000 in
theorem bk_Fr_put_0 {d : Nat} {σ : St} {Q : Option AV → St → Prop} (x0 : Nat) (x1 : Int64) (x3 : Int64)
    (h : Cl lay1 d M_Jm_abs [aJ x1] σ (rJ fun r2 σ1 => Cl lay1 d M_C_commonDivisor [aJ r2, aJ x3] σ1 (rJ fun r4 σ3 => ((lg_cmp r4 (0 : Int64)) ≤ 0 → Q none σ3) ∧ (¬ (lg_cmp r4 (0 : Int64)) ≤ 0 → ¬ r4 = 0 ∧ (¬ r4 = 0 ∧ (Q none (pL (pL σ3 (x0 + 1) 0 (x1 / r4)) (x0 + 1) 1 (x3 / r4)))))))) : Cl lay1 (d + 1) M_Fr_put [aO 0 (x0 + 1), aJ x1, aJ x3] σ Q :=
  run_intro (Cl_mono lay1 d) [] 600 h
set_option maxRecDepth 50000 in
theorem bk_Fr_copy_0 {d : Nat} {σ : St} {Q : Option AV → St → Prop} (x0 : Nat) (x1 : Nat)
    (h : Q none (pL (pL σ (x0 + 1) 0 (gL σ (x1 + 1) 0)) (x0 + 1) 1 (gL (pL σ (x0 + 1) 0 (gL σ (x1 + 1) 0)) (x1 + 1) 1))) : Cl lay1 (d + 1) M_Fr_copy [aO 0 (x0 + 1), aO 0 (x1 + 1)] σ Q :=
  run_intro (Cl_mono lay1 d) [] 600 h
set_option maxRecDepth 50000 in
theorem bk_Fr_negate_0 {d : Nat} {σ : St} {Q : Option AV → St → Prop} (x0 : Nat)
    (h : Q none (pL σ (x0 + 1) 0 (-(gL σ (x0 + 1) 0)))) : Cl lay1 (d + 1) M_Fr_negate [aO 0 (x0 + 1)] σ Q :=
  run_intro (Cl_mono lay1 d) [] 600 h
set_option maxRecDepth 50000 in
theorem bk_Fr_isZero_0 {d : Nat} {σ : St} {Q : Option AV → St → Prop} (x0 : Nat)
    (h : ((lg_cmp (gL σ (x0 + 1) 0) (0 : Int64)) = 0 → ((1 : Int32) = 0 ∨ (1 : Int32) = 1) ∧ Q (some (aI (1 : Int32))) σ) ∧ (¬ (lg_cmp (gL σ (x0 + 1) 0) (0 : Int64)) = 0 → ((0 : Int32) = 0 ∨ (0 : Int32) = 1) ∧ Q (some (aI (0 : Int32))) σ)) : Cl lay1 (d + 1) M_Fr_isZero [aO 0 (x0 + 1)] σ Q :=
  run_intro (Cl_mono lay1 d) [] 600 h
set_option maxRecDepth 50000 in
theorem bk_Fr_compareToWhole_0 {d : Nat} {σ : St} {Q : Option AV → St → Prop} (x0 : Nat) (x1 : Int64)
    (h : Cl lay1 d M_Jl_compare [aJ (gL σ (x0 + 1) 0), aJ (x1 * (gL σ (x0 + 1) 1))] σ (rI fun r2 σ1 => Q (some (aI r2)) σ1)) : Cl lay1 (d + 1) M_Fr_compareToWhole [aO 0 (x0 + 1), aJ x1] σ Q :=
  run_intro (Cl_mono lay1 d) [] 600 h
set_option maxRecDepth 50000 in
theorem bk_Fr_side_0 {d : Nat} {σ : St} {Q : Option AV → St → Prop} (x0 : Nat) (x1 : Int32)
    (h : (x1 = 0 → Q (some (aI (gL σ (x0 + 1) 0).toInt32)) σ) ∧ (¬ x1 = 0 → Q (some (aI (gL σ (x0 + 1) 1).toInt32)) σ)) : Cl lay1 (d + 1) M_Fr_side [aO 0 (x0 + 1), aI x1] σ Q :=
  run_intro (Cl_mono lay1 d) [] 600 h
set_option maxRecDepth 50000 in
theorem bk_Li_init_0 {d : Nat} {σ : St} {Q : Option AV → St → Prop} (x0 : Nat) (x1 : Int64) (x4 : Nat)
    (h : nn x0 (nn x0 (nn x0 (layC lay1 x0 2 x4 ∧ ((0 ≤ (gI (pR (pL σ x0 0 x1) x0 2 x4) 7 1).toInt ∧ (gI (pR (pL σ x0 0 x1) x0 2 x4) 7 1).toInt ≤ 40000) ∧ (nn x0 (layC lay1 x0 1 (sN (pR (pL σ x0 0 x1) x0 2 x4)) ∧ (Wp lay1 rtOf (Cl lay1 d) k_Li_init 0 Q (29, [aO 2 x0, aJ x1, aZ, aO 9 7, aO 2 x4, aI (0 : Int32)], [], (pR (nw (pR (pL σ x0 0 x1) x0 2 x4) 20 (ix (gI (pR (pL σ x0 0 x1) x0 2 x4) 7 1))) x0 1 (sN (pR (pL σ x0 0 x1) x0 2 x4)))))))))))) : Cl lay1 (d + 1) M_Li_init [aO 2 x0, aJ x1, aO 9 7, aO 2 x4] σ Q :=
  run_intro (Cl_mono lay1 d) [29] 600 h
set_option maxRecDepth 50000 in
theorem bk_Li_init_29 {d : Nat} {σ : St} {Q : Option AV → St → Prop} (x0 : Nat) (u1 : AV) (u2 : AV) (u4 : AV) (x5 : Int32)
    (h : ((gI σ 7 1) ≤ x5 → Q none σ) ∧ (¬ (gI σ 7 1) ≤ x5 → nn x0 (inb x5 (gN σ 8) ∧ (nn (ldR lay1 σ x0 1) ((inb x5 (gN σ (ldR lay1 σ x0 1)) ∧ layC lay1 (ldR lay1 σ x0 1) (ix x5) (gR σ 8 (ix x5))) ∧ (Wp lay1 rtOf (Cl lay1 d) k_Li_init 0 Q (29, [aO 2 x0, u1, u2, aO 9 7, (unJ u4), aI (x5 + (1 : Int32))], [], (pR σ (ldR lay1 σ x0 1) (ix x5) (gR σ 8 (ix x5)))))))))) : Wp lay1 rtOf (Cl lay1 d) k_Li_init 0 Q (29, [aO 2 x0, u1, u2, aO 9 7, u4, aI x5], [], σ) :=
  run_intro (Cl_mono lay1 d) [29] 600 h
set_option maxRecDepth 50000 in
theorem bk_Mo_put_0 {d : Nat} {σ : St} {Q : Option AV → St → Prop} (x0 : Nat) (x1 : Int64) (x3 : Int64)
    (h : nn (ldR lay1 σ (x0 + 1) 0) (Cl lay1 d M_Fr_put [aO 0 (ldR lay1 σ (x0 + 1) 0), aJ x1, aJ (1 : Int64)] σ (rV fun σ1 => nn (ldR lay1 σ1 (x0 + 1) 1) (Cl lay1 d M_Fr_put [aO 0 (ldR lay1 σ1 (x0 + 1) 1), aJ x3, aJ (1 : Int64)] σ1 (rV fun σ2 => Q none σ2))))) : Cl lay1 (d + 1) M_Mo_put [aO 3 (x0 + 1), aJ x1, aJ x3] σ Q :=
  run_intro (Cl_mono lay1 d) [] 600 h
set_option maxRecDepth 50000 in
theorem bk_Pa_init_0 {d : Nat} {σ : St} {Q : Option AV → St → Prop} (x0 : Nat) (x1 : Int32) (x2 : Nat)
    (h : layC lay1 (x0 + 1) 1 (x2 + 1) ∧ (Q none (pR (pI σ (x0 + 1) 0 x1) (x0 + 1) 1 (x2 + 1)))) : Cl lay1 (d + 1) M_Pa_init [aO 5 (x0 + 1), aI x1, aO 0 (x2 + 1)] σ Q :=
  run_intro (Cl_mono lay1 d) [] 600 h
set_option maxRecDepth 50000 in
theorem bk_Rk_begin_0 {d : Nat} {σ : St} {Q : Option AV → St → Prop} 
    (h : ((0 : Int32) = 0 ∨ (0 : Int32) = 1) ∧ (Q none (pI σ 30 0 (0 : Int32)))) : Cl lay1 (d + 1) M_Rk_begin [aO 7 30] σ Q :=
  run_intro (Cl_mono lay1 d) [] 600 h
set_option maxRecDepth 50000 in
theorem bk_Rk_plus_0 {d : Nat} {σ : St} {Q : Option AV → St → Prop} (x1 : Nat) (x2 : Nat)
    (h : Cl lay1 d M_Rk_settle [aO 7 30, aO 0 (x1 + 1), aJ (((gL σ (x1 + 1) 0) * (gL σ (x2 + 1) 1)) + ((gL σ (x2 + 1) 0) * (gL σ (x1 + 1) 1))), aJ ((gL σ (x1 + 1) 1) * (gL σ (x2 + 1) 1))] σ (rV fun σ1 => Q none σ1)) : Cl lay1 (d + 1) M_Rk_plus [aO 7 30, aO 0 (x1 + 1), aO 0 (x2 + 1)] σ Q :=
  run_intro (Cl_mono lay1 d) [] 600 h
set_option maxRecDepth 50000 in
theorem bk_Rk_minus_0 {d : Nat} {σ : St} {Q : Option AV → St → Prop} (x1 : Nat) (x2 : Nat)
    (h : Cl lay1 d M_Rk_settle [aO 7 30, aO 0 (x1 + 1), aJ (((gL σ (x1 + 1) 0) * (gL σ (x2 + 1) 1)) - ((gL σ (x2 + 1) 0) * (gL σ (x1 + 1) 1))), aJ ((gL σ (x1 + 1) 1) * (gL σ (x2 + 1) 1))] σ (rV fun σ1 => Q none σ1)) : Cl lay1 (d + 1) M_Rk_minus [aO 7 30, aO 0 (x1 + 1), aO 0 (x2 + 1)] σ Q :=
  run_intro (Cl_mono lay1 d) [] 600 h
set_option maxRecDepth 50000 in
theorem bk_Rk_times_0 {d : Nat} {σ : St} {Q : Option AV → St → Prop} (x1 : Nat) (x2 : Nat)
    (h : Cl lay1 d M_Rk_settle [aO 7 30, aO 0 (x1 + 1), aJ ((gL σ (x1 + 1) 0) * (gL σ (x2 + 1) 0)), aJ ((gL σ (x1 + 1) 1) * (gL σ (x2 + 1) 1))] σ (rV fun σ1 => Q none σ1)) : Cl lay1 (d + 1) M_Rk_times [aO 7 30, aO 0 (x1 + 1), aO 0 (x2 + 1)] σ Q :=
  run_intro (Cl_mono lay1 d) [] 600 h
set_option maxRecDepth 50000 in
theorem bk_Rk_over_0 {d : Nat} {σ : St} {Q : Option AV → St → Prop} (x1 : Nat) (x2 : Nat)
    (h : ((lg_cmp (gL σ (x2 + 1) 0) (0 : Int64)) ≤ 0 → (0 ≤ (lg_cmp (gL σ (x2 + 1) 0) (0 : Int64)) → Q none σ) ∧ (¬ 0 ≤ (lg_cmp (gL σ (x2 + 1) 0) (0 : Int64)) → Cl lay1 d M_Rk_settle [aO 7 30, aO 0 (x1 + 1), aJ ((-(gL σ (x1 + 1) 0)) * (gL σ (x2 + 1) 1)), aJ ((-(gL σ (x1 + 1) 1)) * (gL σ (x2 + 1) 0))] σ (rV fun σ1 => Q none σ1))) ∧ (¬ (lg_cmp (gL σ (x2 + 1) 0) (0 : Int64)) ≤ 0 → Cl lay1 d M_Rk_settle [aO 7 30, aO 0 (x1 + 1), aJ ((gL σ (x1 + 1) 0) * (gL σ (x2 + 1) 1)), aJ ((gL σ (x1 + 1) 1) * (gL σ (x2 + 1) 0))] σ (rV fun σ2 => Q none σ2))) : Cl lay1 (d + 1) M_Rk_over [aO 7 30, aO 0 (x1 + 1), aO 0 (x2 + 1)] σ Q :=
  run_intro (Cl_mono lay1 d) [] 600 h
set_option maxRecDepth 50000 in
theorem bk_Rk_plusProduct_0 {d : Nat} {σ : St} {Q : Option AV → St → Prop} (x1 : Nat) (x2 : Nat) (x3 : Nat)
    (h : Cl lay1 d M_Fr_copy [aO 0 31, aO 0 (x2 + 1)] σ (rV fun σ1 => Cl lay1 d M_Rk_times [aO 7 30, aO 0 31, aO 0 (x3 + 1)] σ1 (rV fun σ2 => Cl lay1 d M_Rk_plus [aO 7 30, aO 0 (x1 + 1), aO 0 31] σ2 (rV fun σ3 => Q none σ3)))) : Cl lay1 (d + 1) M_Rk_plusProduct [aO 7 30, aO 0 (x1 + 1), aO 0 (x2 + 1), aO 0 (x3 + 1)] σ Q :=
  run_intro (Cl_mono lay1 d) [] 600 h
set_option maxRecDepth 50000 in
theorem bk_Rk_minusProduct_0 {d : Nat} {σ : St} {Q : Option AV → St → Prop} (x1 : Nat) (x2 : Nat) (x3 : Nat)
    (h : Cl lay1 d M_Fr_copy [aO 0 31, aO 0 (x2 + 1)] σ (rV fun σ1 => Cl lay1 d M_Rk_times [aO 7 30, aO 0 31, aO 0 (x3 + 1)] σ1 (rV fun σ2 => Cl lay1 d M_Rk_minus [aO 7 30, aO 0 (x1 + 1), aO 0 31] σ2 (rV fun σ3 => Q none σ3)))) : Cl lay1 (d + 1) M_Rk_minusProduct [aO 7 30, aO 0 (x1 + 1), aO 0 (x2 + 1), aO 0 (x3 + 1)] σ Q :=
  run_intro (Cl_mono lay1 d) [] 600 h
set_option maxRecDepth 50000 in
theorem bk_Rk_settle_0 {d : Nat} {σ : St} {Q : Option AV → St → Prop} (x1 : Nat) (x2 : Int64) (x4 : Int64)
    (h : Cl lay1 d M_Jm_abs [aJ x2] σ (rJ fun r2 σ1 => Cl lay1 d M_C_commonDivisor [aJ r2, aJ x4] σ1 (rJ fun r4 σ3 => (0 < (lg_cmp r4 (0 : Int64)) → ¬ r4 = 0 ∧ (Cl lay1 d M_Jm_abs [aJ (x2 / r4)] σ3 (rJ fun r6 σ5 => (0 < (lg_cmp r6 (1000000000 : Int64)) → ((1 : Int32) = 0 ∨ (1 : Int32) = 1) ∧ (Q none (pI σ5 30 0 (1 : Int32)))) ∧ (¬ 0 < (lg_cmp r6 (1000000000 : Int64)) → ¬ r4 = 0 ∧ (((lg_cmp (x4 / r4) (1000000000 : Int64)) ≤ 0 → ¬ r4 = 0 ∧ (¬ r4 = 0 ∧ (Q none (pL (pL σ5 (x1 + 1) 0 (x2 / r4)) (x1 + 1) 1 (x4 / r4))))) ∧ (¬ (lg_cmp (x4 / r4) (1000000000 : Int64)) ≤ 0 → ((1 : Int32) = 0 ∨ (1 : Int32) = 1) ∧ (Q none (pI σ5 30 0 (1 : Int32))))))))) ∧ (¬ 0 < (lg_cmp r4 (0 : Int64)) → Q none σ3)))) : Cl lay1 (d + 1) M_Rk_settle [aO 7 30, aO 0 (x1 + 1), aJ x2, aJ x4] σ Q :=
  run_intro (Cl_mono lay1 d) [] 600 h
set_option maxRecDepth 50000 in
theorem bk_Ro_clear_0 {d : Nat} {σ : St} {Q : Option AV → St → Prop} 
    (h : ((0 : Int32) = 0 ∨ (0 : Int32) = 1) ∧ (Q none (pI (pI (pI (pI σ 7 1 (0 : Int32)) 7 2 (0 : Int32)) 7 3 (0 : Int32)) 7 4 (0 : Int32)))) : Cl lay1 (d + 1) M_Ro_clear [aO 9 7] σ Q :=
  run_intro (Cl_mono lay1 d) [] 600 h
set_option maxRecDepth 50000 in
theorem bk_Ro_add_0 {d : Nat} {σ : St} {Q : Option AV → St → Prop} (x1 : Nat)
    (h : ((gI σ 7 4) = 0 → ((gI σ (x1 + 1) 0) = (3 : Int32) → ((gI (pI σ 7 2 ((gI σ 7 2) + (1 : Int32))) (x1 + 1) 0) = (4 : Int32) → ((80 : Int32) ≤ (gI (pI (pI σ 7 2 ((gI σ 7 2) + (1 : Int32))) 7 3 ((gI (pI σ 7 2 ((gI σ 7 2) + (1 : Int32))) 7 3) + (1 : Int32))) 7 1) → ((1 : Int32) = 0 ∨ (1 : Int32) = 1) ∧ (Q none (pI (pI (pI σ 7 2 ((gI σ 7 2) + (1 : Int32))) 7 3 ((gI (pI σ 7 2 ((gI σ 7 2) + (1 : Int32))) 7 3) + (1 : Int32))) 7 4 (1 : Int32)))) ∧ (¬ (80 : Int32) ≤ (gI (pI (pI σ 7 2 ((gI σ 7 2) + (1 : Int32))) 7 3 ((gI (pI σ 7 2 ((gI σ 7 2) + (1 : Int32))) 7 3) + (1 : Int32))) 7 1) → ((12 : Int32) < (gI (pI (pI σ 7 2 ((gI σ 7 2) + (1 : Int32))) 7 3 ((gI (pI σ 7 2 ((gI σ 7 2) + (1 : Int32))) 7 3) + (1 : Int32))) 7 2) → ((1 : Int32) = 0 ∨ (1 : Int32) = 1) ∧ (Q none (pI (pI (pI σ 7 2 ((gI σ 7 2) + (1 : Int32))) 7 3 ((gI (pI σ 7 2 ((gI σ 7 2) + (1 : Int32))) 7 3) + (1 : Int32))) 7 4 (1 : Int32)))) ∧ (¬ (12 : Int32) < (gI (pI (pI σ 7 2 ((gI σ 7 2) + (1 : Int32))) 7 3 ((gI (pI σ 7 2 ((gI σ 7 2) + (1 : Int32))) 7 3) + (1 : Int32))) 7 2) → ((gI (pI (pI σ 7 2 ((gI σ 7 2) + (1 : Int32))) 7 3 ((gI (pI σ 7 2 ((gI σ 7 2) + (1 : Int32))) 7 3) + (1 : Int32))) 7 3) ≤ (12 : Int32) → (inb (gI (pI (pI σ 7 2 ((gI σ 7 2) + (1 : Int32))) 7 3 ((gI (pI σ 7 2 ((gI σ 7 2) + (1 : Int32))) 7 3) + (1 : Int32))) 7 1) (gN (pI (pI σ 7 2 ((gI σ 7 2) + (1 : Int32))) 7 3 ((gI (pI σ 7 2 ((gI σ 7 2) + (1 : Int32))) 7 3) + (1 : Int32))) 8) ∧ layC lay1 8 (ix (gI (pI (pI σ 7 2 ((gI σ 7 2) + (1 : Int32))) 7 3 ((gI (pI σ 7 2 ((gI σ 7 2) + (1 : Int32))) 7 3) + (1 : Int32))) 7 1)) (x1 + 1)) ∧ (Q none (pI (pR (pI (pI σ 7 2 ((gI σ 7 2) + (1 : Int32))) 7 3 ((gI (pI σ 7 2 ((gI σ 7 2) + (1 : Int32))) 7 3) + (1 : Int32))) 8 (ix (gI (pI (pI σ 7 2 ((gI σ 7 2) + (1 : Int32))) 7 3 ((gI (pI σ 7 2 ((gI σ 7 2) + (1 : Int32))) 7 3) + (1 : Int32))) 7 1)) (x1 + 1)) 7 1 ((gI (pR (pI (pI σ 7 2 ((gI σ 7 2) + (1 : Int32))) 7 3 ((gI (pI σ 7 2 ((gI σ 7 2) + (1 : Int32))) 7 3) + (1 : Int32))) 8 (ix (gI (pI (pI σ 7 2 ((gI σ 7 2) + (1 : Int32))) 7 3 ((gI (pI σ 7 2 ((gI σ 7 2) + (1 : Int32))) 7 3) + (1 : Int32))) 7 1)) (x1 + 1)) 7 1) + (1 : Int32))))) ∧ (¬ (gI (pI (pI σ 7 2 ((gI σ 7 2) + (1 : Int32))) 7 3 ((gI (pI σ 7 2 ((gI σ 7 2) + (1 : Int32))) 7 3) + (1 : Int32))) 7 3) ≤ (12 : Int32) → ((1 : Int32) = 0 ∨ (1 : Int32) = 1) ∧ (Q none (pI (pI (pI σ 7 2 ((gI σ 7 2) + (1 : Int32))) 7 3 ((gI (pI σ 7 2 ((gI σ 7 2) + (1 : Int32))) 7 3) + (1 : Int32))) 7 4 (1 : Int32))))))) ∧ (¬ (gI (pI σ 7 2 ((gI σ 7 2) + (1 : Int32))) (x1 + 1) 0) = (4 : Int32) → ((80 : Int32) ≤ (gI (pI σ 7 2 ((gI σ 7 2) + (1 : Int32))) 7 1) → ((1 : Int32) = 0 ∨ (1 : Int32) = 1) ∧ (Q none (pI (pI σ 7 2 ((gI σ 7 2) + (1 : Int32))) 7 4 (1 : Int32)))) ∧ (¬ (80 : Int32) ≤ (gI (pI σ 7 2 ((gI σ 7 2) + (1 : Int32))) 7 1) → ((12 : Int32) < (gI (pI σ 7 2 ((gI σ 7 2) + (1 : Int32))) 7 2) → ((1 : Int32) = 0 ∨ (1 : Int32) = 1) ∧ (Q none (pI (pI σ 7 2 ((gI σ 7 2) + (1 : Int32))) 7 4 (1 : Int32)))) ∧ (¬ (12 : Int32) < (gI (pI σ 7 2 ((gI σ 7 2) + (1 : Int32))) 7 2) → ((gI (pI σ 7 2 ((gI σ 7 2) + (1 : Int32))) 7 3) ≤ (12 : Int32) → (inb (gI (pI σ 7 2 ((gI σ 7 2) + (1 : Int32))) 7 1) (gN (pI σ 7 2 ((gI σ 7 2) + (1 : Int32))) 8) ∧ layC lay1 8 (ix (gI (pI σ 7 2 ((gI σ 7 2) + (1 : Int32))) 7 1)) (x1 + 1)) ∧ (Q none (pI (pR (pI σ 7 2 ((gI σ 7 2) + (1 : Int32))) 8 (ix (gI (pI σ 7 2 ((gI σ 7 2) + (1 : Int32))) 7 1)) (x1 + 1)) 7 1 ((gI (pR (pI σ 7 2 ((gI σ 7 2) + (1 : Int32))) 8 (ix (gI (pI σ 7 2 ((gI σ 7 2) + (1 : Int32))) 7 1)) (x1 + 1)) 7 1) + (1 : Int32))))) ∧ (¬ (gI (pI σ 7 2 ((gI σ 7 2) + (1 : Int32))) 7 3) ≤ (12 : Int32) → ((1 : Int32) = 0 ∨ (1 : Int32) = 1) ∧ (Q none (pI (pI σ 7 2 ((gI σ 7 2) + (1 : Int32))) 7 4 (1 : Int32)))))))) ∧ (¬ (gI σ (x1 + 1) 0) = (3 : Int32) → ((gI σ (x1 + 1) 0) = (4 : Int32) → ((80 : Int32) ≤ (gI (pI σ 7 3 ((gI σ 7 3) + (1 : Int32))) 7 1) → ((1 : Int32) = 0 ∨ (1 : Int32) = 1) ∧ (Q none (pI (pI σ 7 3 ((gI σ 7 3) + (1 : Int32))) 7 4 (1 : Int32)))) ∧ (¬ (80 : Int32) ≤ (gI (pI σ 7 3 ((gI σ 7 3) + (1 : Int32))) 7 1) → ((12 : Int32) < (gI (pI σ 7 3 ((gI σ 7 3) + (1 : Int32))) 7 2) → ((1 : Int32) = 0 ∨ (1 : Int32) = 1) ∧ (Q none (pI (pI σ 7 3 ((gI σ 7 3) + (1 : Int32))) 7 4 (1 : Int32)))) ∧ (¬ (12 : Int32) < (gI (pI σ 7 3 ((gI σ 7 3) + (1 : Int32))) 7 2) → ((gI (pI σ 7 3 ((gI σ 7 3) + (1 : Int32))) 7 3) ≤ (12 : Int32) → (inb (gI (pI σ 7 3 ((gI σ 7 3) + (1 : Int32))) 7 1) (gN (pI σ 7 3 ((gI σ 7 3) + (1 : Int32))) 8) ∧ layC lay1 8 (ix (gI (pI σ 7 3 ((gI σ 7 3) + (1 : Int32))) 7 1)) (x1 + 1)) ∧ (Q none (pI (pR (pI σ 7 3 ((gI σ 7 3) + (1 : Int32))) 8 (ix (gI (pI σ 7 3 ((gI σ 7 3) + (1 : Int32))) 7 1)) (x1 + 1)) 7 1 ((gI (pR (pI σ 7 3 ((gI σ 7 3) + (1 : Int32))) 8 (ix (gI (pI σ 7 3 ((gI σ 7 3) + (1 : Int32))) 7 1)) (x1 + 1)) 7 1) + (1 : Int32))))) ∧ (¬ (gI (pI σ 7 3 ((gI σ 7 3) + (1 : Int32))) 7 3) ≤ (12 : Int32) → ((1 : Int32) = 0 ∨ (1 : Int32) = 1) ∧ (Q none (pI (pI σ 7 3 ((gI σ 7 3) + (1 : Int32))) 7 4 (1 : Int32))))))) ∧ (¬ (gI σ (x1 + 1) 0) = (4 : Int32) → ((80 : Int32) ≤ (gI σ 7 1) → ((1 : Int32) = 0 ∨ (1 : Int32) = 1) ∧ (Q none (pI σ 7 4 (1 : Int32)))) ∧ (¬ (80 : Int32) ≤ (gI σ 7 1) → ((12 : Int32) < (gI σ 7 2) → ((1 : Int32) = 0 ∨ (1 : Int32) = 1) ∧ (Q none (pI σ 7 4 (1 : Int32)))) ∧ (¬ (12 : Int32) < (gI σ 7 2) → ((gI σ 7 3) ≤ (12 : Int32) → (inb (gI σ 7 1) (gN σ 8) ∧ layC lay1 8 (ix (gI σ 7 1)) (x1 + 1)) ∧ (Q none (pI (pR σ 8 (ix (gI σ 7 1)) (x1 + 1)) 7 1 ((gI (pR σ 8 (ix (gI σ 7 1)) (x1 + 1)) 7 1) + (1 : Int32))))) ∧ (¬ (gI σ 7 3) ≤ (12 : Int32) → ((1 : Int32) = 0 ∨ (1 : Int32) = 1) ∧ (Q none (pI σ 7 4 (1 : Int32))))))))) ∧ (¬ (gI σ 7 4) = 0 → Q none σ)) : Cl lay1 (d + 1) M_Ro_add [aO 9 7, aO 5 (x1 + 1)] σ Q :=
  run_intro (Cl_mono lay1 d) [] 600 h
set_option maxRecDepth 50000 in
theorem bk_Ro_addLine_0 {d : Nat} {σ : St} {Q : Option AV → St → Prop} (x1 : Nat)
    (h : Wp lay1 rtOf (Cl lay1 d) k_Ro_addLine 0 Q (2, [aO 9 7, aO 2 x1, aI (0 : Int32)], [], σ)) : Cl lay1 (d + 1) M_Ro_addLine [aO 9 7, aO 2 x1] σ Q :=
  run_intro (Cl_mono lay1 d) [2] 600 h
set_option maxRecDepth 50000 in
theorem bk_Ro_addLine_2 {d : Nat} {σ : St} {Q : Option AV → St → Prop} (x1 : Nat) (x2 : Int32)
    (h : nn x1 (nn (ldR lay1 σ x1 1) (((Int32.ofNat (gN σ (ldR lay1 σ x1 1))) ≤ x2 → Q none σ) ∧ (¬ (Int32.ofNat (gN σ (ldR lay1 σ x1 1))) ≤ x2 → nn x1 (nn (ldR lay1 σ x1 1) (inb x2 (gN σ (ldR lay1 σ x1 1)) ∧ (Cl lay1 d M_Ro_add [aO 9 7, aO 5 (gR σ (ldR lay1 σ x1 1) (ix x2))] σ (rV fun σ1 => Wp lay1 rtOf (Cl lay1 d) k_Ro_addLine 0 Q (2, [aO 9 7, aO 2 x1, aI (x2 + (1 : Int32))], [], σ1))))))))) : Wp lay1 rtOf (Cl lay1 d) k_Ro_addLine 0 Q (2, [aO 9 7, aO 2 x1, aI x2], [], σ) :=
  run_intro (Cl_mono lay1 d) [2] 600 h
set_option maxRecDepth 50000 in
theorem bk_Ro_repeat_0 {d : Nat} {σ : St} {Q : Option AV → St → Prop} (x1 : Int32) (x2 : Int32)
    (h : Wp lay1 rtOf (Cl lay1 d) k_Ro_repeat 0 Q (8, [aO 9 7, aI x1, aI x2, aI (gI σ 7 1), aI (1 : Int32), aZ], [], σ)) : Cl lay1 (d + 1) M_Ro_repeat [aO 9 7, aI x1, aI x2] σ Q :=
  run_intro (Cl_mono lay1 d) [8, 24] 600 h
set_option maxRecDepth 50000 in
theorem bk_Ro_repeat_8 {d : Nat} {σ : St} {Q : Option AV → St → Prop} (x1 : Int32) (x2 : Int32) (x3 : Int32) (x4 : Int32) (u5 : AV)
    (h : (x2 ≤ x4 → Q none σ) ∧ (¬ x2 ≤ x4 → ((gI σ 7 4) = 0 → Wp lay1 rtOf (Cl lay1 d) k_Ro_repeat 0 Q (24, [aO 9 7, aI x1, aI x2, aI x3, aI x4, aI x1], [], σ)) ∧ (¬ (gI σ 7 4) = 0 → Q none σ))) : Wp lay1 rtOf (Cl lay1 d) k_Ro_repeat 0 Q (8, [aO 9 7, aI x1, aI x2, aI x3, aI x4, u5], [], σ) :=
  run_intro (Cl_mono lay1 d) [8, 24] 600 h
set_option maxRecDepth 50000 in
theorem bk_Ro_repeat_24 {d : Nat} {σ : St} {Q : Option AV → St → Prop} (x1 : Int32) (x2 : Int32) (x3 : Int32) (x4 : Int32) (x5 : Int32)
    (h : (x3 ≤ x5 → Wp lay1 rtOf (Cl lay1 d) k_Ro_repeat 0 Q (8, [aO 9 7, aI x1, aI x2, aI x3, aI (x4 + (1 : Int32)), aI x5], [], σ)) ∧ (¬ x3 ≤ x5 → inb x5 (gN σ 8) ∧ (Cl lay1 d M_Ro_add [aO 9 7, aO 5 (gR σ 8 (ix x5))] σ (rV fun σ1 => Wp lay1 rtOf (Cl lay1 d) k_Ro_repeat 0 Q (24, [aO 9 7, aI x1, aI x2, aI x3, aI x4, aI (x5 + (1 : Int32))], [], σ1))))) : Wp lay1 rtOf (Cl lay1 d) k_Ro_repeat 0 Q (24, [aO 9 7, aI x1, aI x2, aI x3, aI x4, aI x5], [], σ) :=
  run_intro (Cl_mono lay1 d) [8, 24] 600 h
set_option maxRecDepth 50000 in
theorem bk_Te_append_0 {d : Nat} {σ : St} {Q : Option AV → St → Prop} (x1 : Int32)
    (h : ((1500 : Int32) ≤ (gI σ 5 1) → Q none σ) ∧ (¬ (1500 : Int32) ≤ (gI σ 5 1) → inb (gI σ 5 1) (gN σ 6) ∧ (Q none (pI (pI σ 6 (ix (gI σ 5 1)) (vp_nar .byte x1.toInt8.toInt32)) 5 1 ((gI (pI σ 6 (ix (gI σ 5 1)) (vp_nar .byte x1.toInt8.toInt32)) 5 1) + (1 : Int32)))))) : Cl lay1 (d + 1) M_Te_append [aO 10 5, aI x1] σ Q :=
  run_intro (Cl_mono lay1 d) [] 600 h
set_option maxRecDepth 50000 in
theorem bk_Te_empty_0 {d : Nat} {σ : St} {Q : Option AV → St → Prop} 
    (h : Q none (pI σ 5 1 (0 : Int32))) : Cl lay1 (d + 1) M_Te_empty [aO 10 5] σ Q :=
  run_intro (Cl_mono lay1 d) [] 600 h
set_option maxRecDepth 50000 in
theorem bk_Te_rewind_0 {d : Nat} {σ : St} {Q : Option AV → St → Prop} 
    (h : Q none (pI σ 5 4 (0 : Int32))) : Cl lay1 (d + 1) M_Te_rewind [aO 10 5] σ Q :=
  run_intro (Cl_mono lay1 d) [] 600 h
set_option maxRecDepth 50000 in
theorem bk_Te_advance_0 {d : Nat} {σ : St} {Q : Option AV → St → Prop} 
    (h : Cl lay1 d M_Te_skipBlanks [aO 10 5] σ (rV fun σ1 => Cl lay1 d M_Te_signAt [aO 10 5, aI (gI (pI σ1 5 3 (gI σ1 5 4)) 5 4)] (pI σ1 5 3 (gI σ1 5 4)) (rI fun r3 σ2 => (r3 = (-1 : Int32) → Q none (pI σ2 5 2 (-1 : Int32))) ∧ (¬ r3 = (-1 : Int32) → Cl lay1 d M_Te_isLetter [aI r3] σ2 (rI fun r5 σ4 => (r5 = 0 → Cl lay1 d M_Te_isFigure [aI r3] σ4 (rI fun r7 σ6 => (r7 = 0 → Cl lay1 d M_Te_standsAlone [aI r3] σ6 (rI fun r9 σ8 => (r9 = 0 → Q none (pI (pI σ8 5 2 (-2 : Int32)) 5 4 ((gI (pI σ8 5 2 (-2 : Int32)) 5 4) + (1 : Int32)))) ∧ (¬ r9 = 0 → Q none (pI (pI σ8 5 2 r3) 5 4 ((gI (pI σ8 5 2 r3) 5 4) + (1 : Int32)))))) ∧ (¬ r7 = 0 → Cl lay1 d M_Te_takeNumber [aO 10 5] σ6 (rV fun σ10 => Q none σ10)))) ∧ (¬ r5 = 0 → Cl lay1 d M_Te_takeName [aO 10 5] σ4 (rV fun σ11 => Q none σ11))))))) : Cl lay1 (d + 1) M_Te_advance [aO 10 5] σ Q :=
  run_intro (Cl_mono lay1 d) [] 600 h
set_option maxRecDepth 50000 in
theorem bk_Te_signAt_0 {d : Nat} {σ : St} {Q : Option AV → St → Prop} (x1 : Int32)
    (h : (x1 < 0 → Q (some (aI (-1 : Int32))) σ) ∧ (¬ x1 < 0 → ((gI σ 5 1) ≤ x1 → Q (some (aI (-1 : Int32))) σ) ∧ (¬ (gI σ 5 1) ≤ x1 → (x1 < (1500 : Int32) → inb x1 (gN σ 6) ∧ (Q (some (aI ((gI σ 6 (ix x1)) &&& (255 : Int32)))) σ)) ∧ (¬ x1 < (1500 : Int32) → Q (some (aI (-1 : Int32))) σ)))) : Cl lay1 (d + 1) M_Te_signAt [aO 10 5, aI x1] σ Q :=
  run_intro (Cl_mono lay1 d) [] 600 h
set_option maxRecDepth 50000 in
theorem bk_Te_skipBlanks_0 {d : Nat} {σ : St} {Q : Option AV → St → Prop} 
    (h : ((gI σ 5 1) ≤ (gI σ 5 4) → Q none σ) ∧ (¬ (gI σ 5 1) ≤ (gI σ 5 4) → Cl lay1 d M_Te_signAt [aO 10 5, aI (gI σ 5 4)] σ (rI fun r2 σ1 => Cl lay1 d M_Te_isBlank [aI r2] σ1 (rI fun r4 σ3 => (r4 = 0 → Q none σ3) ∧ (¬ r4 = 0 → Wp lay1 rtOf (Cl lay1 d) k_Te_skipBlanks 0 Q (0, [aO 10 5], [], (pI σ3 5 4 ((gI σ3 5 4) + (1 : Int32))))))))) : Wp lay1 rtOf (Cl lay1 d) k_Te_skipBlanks 0 Q (0, [aO 10 5], [], σ) :=
  run_intro (Cl_mono lay1 d) [0] 600 h
set_option maxRecDepth 50000 in
theorem bk_Te_takeName_0 {d : Nat} {σ : St} {Q : Option AV → St → Prop} 
    (h : Wp lay1 rtOf (Cl lay1 d) k_Te_takeName 0 Q (5, [aO 10 5], [], (pL σ 5 5 (0 : Int64)))) : Cl lay1 (d + 1) M_Te_takeName [aO 10 5] σ Q :=
  run_intro (Cl_mono lay1 d) [5] 600 h
set_option maxRecDepth 50000 in
theorem bk_Te_takeName_5 {d : Nat} {σ : St} {Q : Option AV → St → Prop} 
    (h : ((gI σ 5 1) ≤ (gI σ 5 4) → ((8 : Int32) < ((gI σ 5 4) - (gI σ 5 3)) → Q none (pI σ 5 2 (-2 : Int32))) ∧ (¬ (8 : Int32) < ((gI σ 5 4) - (gI σ 5 3)) → Q none (pI σ 5 2 (-3 : Int32)))) ∧ (¬ (gI σ 5 1) ≤ (gI σ 5 4) → Cl lay1 d M_Te_signAt [aO 10 5, aI (gI σ 5 4)] σ (rI fun r2 σ1 => Cl lay1 d M_Te_isLetter [aI r2] σ1 (rI fun r4 σ3 => (r4 = 0 → ((8 : Int32) < ((gI σ3 5 4) - (gI σ3 5 3)) → Q none (pI σ3 5 2 (-2 : Int32))) ∧ (¬ (8 : Int32) < ((gI σ3 5 4) - (gI σ3 5 3)) → Q none (pI σ3 5 2 (-3 : Int32)))) ∧ (¬ r4 = 0 → Cl lay1 d M_Te_signAt [aO 10 5, aI (gI σ3 5 4)] σ3 (rI fun r6 σ5 => Cl lay1 d M_Te_letterWorth [aI r6] σ5 (rI fun r8 σ7 => Wp lay1 rtOf (Cl lay1 d) k_Te_takeName 0 Q (5, [aO 10 5], [], (pI (pL σ7 5 5 (((gL σ3 5 5) * (32 : Int64)) + r8.toInt64)) 5 4 ((gI (pL σ7 5 5 (((gL σ3 5 5) * (32 : Int64)) + r8.toInt64)) 5 4) + (1 : Int32))))))))))) : Wp lay1 rtOf (Cl lay1 d) k_Te_takeName 0 Q (5, [aO 10 5], [], σ) :=
  run_intro (Cl_mono lay1 d) [5] 600 h
set_option maxRecDepth 50000 in
theorem bk_Te_takeNumber_0 {d : Nat} {σ : St} {Q : Option AV → St → Prop} 
    (h : Wp lay1 rtOf (Cl lay1 d) k_Te_takeNumber 0 Q (5, [aO 10 5], [], (pL σ 5 5 (0 : Int64)))) : Cl lay1 (d + 1) M_Te_takeNumber [aO 10 5] σ Q :=
  run_intro (Cl_mono lay1 d) [5] 600 h
set_option maxRecDepth 50000 in
theorem bk_Te_takeNumber_5 {d : Nat} {σ : St} {Q : Option AV → St → Prop} 
    (h : ((gI σ 5 1) ≤ (gI σ 5 4) → ((4 : Int32) < ((gI σ 5 4) - (gI σ 5 3)) → Q none (pI σ 5 2 (-2 : Int32))) ∧ (¬ (4 : Int32) < ((gI σ 5 4) - (gI σ 5 3)) → Q none (pI σ 5 2 (-4 : Int32)))) ∧ (¬ (gI σ 5 1) ≤ (gI σ 5 4) → Cl lay1 d M_Te_signAt [aO 10 5, aI (gI σ 5 4)] σ (rI fun r2 σ1 => Cl lay1 d M_Te_isFigure [aI r2] σ1 (rI fun r4 σ3 => (r4 = 0 → ((4 : Int32) < ((gI σ3 5 4) - (gI σ3 5 3)) → Q none (pI σ3 5 2 (-2 : Int32))) ∧ (¬ (4 : Int32) < ((gI σ3 5 4) - (gI σ3 5 3)) → Q none (pI σ3 5 2 (-4 : Int32)))) ∧ (¬ r4 = 0 → Cl lay1 d M_Te_signAt [aO 10 5, aI (gI σ3 5 4)] σ3 (rI fun r6 σ5 => Wp lay1 rtOf (Cl lay1 d) k_Te_takeNumber 0 Q (5, [aO 10 5], [], (pI (pL σ5 5 5 (((gL σ3 5 5) * (10 : Int64)) + (r6 - (48 : Int32)).toInt64)) 5 4 ((gI (pL σ5 5 5 (((gL σ3 5 5) * (10 : Int64)) + (r6 - (48 : Int32)).toInt64)) 5 4) + (1 : Int32)))))))))) : Wp lay1 rtOf (Cl lay1 d) k_Te_takeNumber 0 Q (5, [aO 10 5], [], σ) :=
  run_intro (Cl_mono lay1 d) [5] 600 h
set_option maxRecDepth 50000 in
theorem bk_Te_isName_0 {d : Nat} {σ : St} {Q : Option AV → St → Prop} (x1 : Int32)
    (h : ((gI σ 5 2) = (-3 : Int32) → Cl lay1 d M_Te_letterWorth [aI x1] σ (rI fun r2 σ1 => ((lg_cmp (gL σ 5 5) r2.toInt64) = 0 → ((1 : Int32) = 0 ∨ (1 : Int32) = 1) ∧ Q (some (aI (1 : Int32))) σ1) ∧ (¬ (lg_cmp (gL σ 5 5) r2.toInt64) = 0 → ((0 : Int32) = 0 ∨ (0 : Int32) = 1) ∧ Q (some (aI (0 : Int32))) σ1))) ∧ (¬ (gI σ 5 2) = (-3 : Int32) → ((0 : Int32) = 0 ∨ (0 : Int32) = 1) ∧ Q (some (aI (0 : Int32))) σ)) : Cl lay1 (d + 1) M_Te_isName [aO 10 5, aI x1] σ Q :=
  run_intro (Cl_mono lay1 d) [] 600 h
set_option maxRecDepth 50000 in
theorem bk_Te_isKindLetter_0 {d : Nat} {σ : St} {Q : Option AV → St → Prop} 
    (h : Cl lay1 d M_Te_isName [aO 10 5, aI (100 : Int32)] σ (rI fun r2 σ1 => (r2 = 0 → Cl lay1 d M_Te_isName [aO 10 5, aI (113 : Int32)] σ1 (rI fun r4 σ3 => (r4 = 0 → Cl lay1 d M_Te_isName [aO 10 5, aI (115 : Int32)] σ3 (rI fun r6 σ5 => (r6 = 0 → Cl lay1 d M_Te_isName [aO 10 5, aI (107 : Int32)] σ5 (rI fun r8 σ7 => (r8 = 0 → Cl lay1 d M_Te_isName [aO 10 5, aI (109 : Int32)] σ7 (rI fun r10 σ9 => (r10 = 0 → ((0 : Int32) = 0 ∨ (0 : Int32) = 1) ∧ Q (some (aI (0 : Int32))) σ9) ∧ (¬ r10 = 0 → ((1 : Int32) = 0 ∨ (1 : Int32) = 1) ∧ Q (some (aI (1 : Int32))) σ9))) ∧ (¬ r8 = 0 → ((1 : Int32) = 0 ∨ (1 : Int32) = 1) ∧ Q (some (aI (1 : Int32))) σ7))) ∧ (¬ r6 = 0 → ((1 : Int32) = 0 ∨ (1 : Int32) = 1) ∧ Q (some (aI (1 : Int32))) σ5))) ∧ (¬ r4 = 0 → ((1 : Int32) = 0 ∨ (1 : Int32) = 1) ∧ Q (some (aI (1 : Int32))) σ3))) ∧ (¬ r2 = 0 → ((1 : Int32) = 0 ∨ (1 : Int32) = 1) ∧ Q (some (aI (1 : Int32))) σ1))) : Cl lay1 (d + 1) M_Te_isKindLetter [aO 10 5] σ Q :=
  run_intro (Cl_mono lay1 d) [] 600 h
set_option maxRecDepth 50000 in
theorem bk_Te_letterWorth_0 {d : Nat} {σ : St} {Q : Option AV → St → Prop} (x0 : Int32)
    (h : Q (some (aI ((x0 - (97 : Int32)) + (1 : Int32)))) σ) : Cl lay1 (d + 1) M_Te_letterWorth [aI x0] σ Q :=
  run_intro (Cl_mono lay1 d) [] 600 h
set_option maxRecDepth 50000 in
theorem bk_Te_isBlank_0 {d : Nat} {σ : St} {Q : Option AV → St → Prop} (x0 : Int32)
    (h : (x0 = (32 : Int32) → ((1 : Int32) = 0 ∨ (1 : Int32) = 1) ∧ Q (some (aI (1 : Int32))) σ) ∧ (¬ x0 = (32 : Int32) → (x0 = (10 : Int32) → ((1 : Int32) = 0 ∨ (1 : Int32) = 1) ∧ Q (some (aI (1 : Int32))) σ) ∧ (¬ x0 = (10 : Int32) → ((0 : Int32) = 0 ∨ (0 : Int32) = 1) ∧ Q (some (aI (0 : Int32))) σ))) : Cl lay1 (d + 1) M_Te_isBlank [aI x0] σ Q :=
  run_intro (Cl_mono lay1 d) [] 600 h
set_option maxRecDepth 50000 in
theorem bk_Te_isLetter_0 {d : Nat} {σ : St} {Q : Option AV → St → Prop} (x0 : Int32)
    (h : (x0 < (97 : Int32) → ((0 : Int32) = 0 ∨ (0 : Int32) = 1) ∧ Q (some (aI (0 : Int32))) σ) ∧ (¬ x0 < (97 : Int32) → ((122 : Int32) < x0 → ((0 : Int32) = 0 ∨ (0 : Int32) = 1) ∧ Q (some (aI (0 : Int32))) σ) ∧ (¬ (122 : Int32) < x0 → ((1 : Int32) = 0 ∨ (1 : Int32) = 1) ∧ Q (some (aI (1 : Int32))) σ))) : Cl lay1 (d + 1) M_Te_isLetter [aI x0] σ Q :=
  run_intro (Cl_mono lay1 d) [] 600 h
set_option maxRecDepth 50000 in
theorem bk_Te_isFigure_0 {d : Nat} {σ : St} {Q : Option AV → St → Prop} (x0 : Int32)
    (h : (x0 < (48 : Int32) → ((0 : Int32) = 0 ∨ (0 : Int32) = 1) ∧ Q (some (aI (0 : Int32))) σ) ∧ (¬ x0 < (48 : Int32) → ((57 : Int32) < x0 → ((0 : Int32) = 0 ∨ (0 : Int32) = 1) ∧ Q (some (aI (0 : Int32))) σ) ∧ (¬ (57 : Int32) < x0 → ((1 : Int32) = 0 ∨ (1 : Int32) = 1) ∧ Q (some (aI (1 : Int32))) σ))) : Cl lay1 (d + 1) M_Te_isFigure [aI x0] σ Q :=
  run_intro (Cl_mono lay1 d) [] 600 h
set_option maxRecDepth 50000 in
theorem bk_Te_standsAlone_0 {d : Nat} {σ : St} {Q : Option AV → St → Prop} (x0 : Int32)
    (h : (x0 = (40 : Int32) → ((1 : Int32) = 0 ∨ (1 : Int32) = 1) ∧ Q (some (aI (1 : Int32))) σ) ∧ (¬ x0 = (40 : Int32) → (x0 = (41 : Int32) → ((1 : Int32) = 0 ∨ (1 : Int32) = 1) ∧ Q (some (aI (1 : Int32))) σ) ∧ (¬ x0 = (41 : Int32) → (x0 = (42 : Int32) → ((1 : Int32) = 0 ∨ (1 : Int32) = 1) ∧ Q (some (aI (1 : Int32))) σ) ∧ (¬ x0 = (42 : Int32) → (x0 = (43 : Int32) → ((0 : Int32) = 0 ∨ (0 : Int32) = 1) ∧ Q (some (aI (0 : Int32))) σ) ∧ (¬ x0 = (43 : Int32) → (x0 = (44 : Int32) → ((0 : Int32) = 0 ∨ (0 : Int32) = 1) ∧ Q (some (aI (0 : Int32))) σ) ∧ (¬ x0 = (44 : Int32) → (x0 = (45 : Int32) → ((1 : Int32) = 0 ∨ (1 : Int32) = 1) ∧ Q (some (aI (1 : Int32))) σ) ∧ (¬ x0 = (45 : Int32) → (x0 = (46 : Int32) → ((0 : Int32) = 0 ∨ (0 : Int32) = 1) ∧ Q (some (aI (0 : Int32))) σ) ∧ (¬ x0 = (46 : Int32) → (x0 = (47 : Int32) → ((1 : Int32) = 0 ∨ (1 : Int32) = 1) ∧ Q (some (aI (1 : Int32))) σ) ∧ (¬ x0 = (47 : Int32) → (x0 = (48 : Int32) → ((0 : Int32) = 0 ∨ (0 : Int32) = 1) ∧ Q (some (aI (0 : Int32))) σ) ∧ (¬ x0 = (48 : Int32) → (x0 = (49 : Int32) → ((0 : Int32) = 0 ∨ (0 : Int32) = 1) ∧ Q (some (aI (0 : Int32))) σ) ∧ (¬ x0 = (49 : Int32) → (x0 = (50 : Int32) → ((0 : Int32) = 0 ∨ (0 : Int32) = 1) ∧ Q (some (aI (0 : Int32))) σ) ∧ (¬ x0 = (50 : Int32) → (x0 = (51 : Int32) → ((0 : Int32) = 0 ∨ (0 : Int32) = 1) ∧ Q (some (aI (0 : Int32))) σ) ∧ (¬ x0 = (51 : Int32) → (x0 = (52 : Int32) → ((0 : Int32) = 0 ∨ (0 : Int32) = 1) ∧ Q (some (aI (0 : Int32))) σ) ∧ (¬ x0 = (52 : Int32) → (x0 = (53 : Int32) → ((0 : Int32) = 0 ∨ (0 : Int32) = 1) ∧ Q (some (aI (0 : Int32))) σ) ∧ (¬ x0 = (53 : Int32) → (x0 = (54 : Int32) → ((0 : Int32) = 0 ∨ (0 : Int32) = 1) ∧ Q (some (aI (0 : Int32))) σ) ∧ (¬ x0 = (54 : Int32) → (x0 = (55 : Int32) → ((0 : Int32) = 0 ∨ (0 : Int32) = 1) ∧ Q (some (aI (0 : Int32))) σ) ∧ (¬ x0 = (55 : Int32) → (x0 = (56 : Int32) → ((0 : Int32) = 0 ∨ (0 : Int32) = 1) ∧ Q (some (aI (0 : Int32))) σ) ∧ (¬ x0 = (56 : Int32) → (x0 = (57 : Int32) → ((0 : Int32) = 0 ∨ (0 : Int32) = 1) ∧ Q (some (aI (0 : Int32))) σ) ∧ (¬ x0 = (57 : Int32) → (x0 = (58 : Int32) → ((0 : Int32) = 0 ∨ (0 : Int32) = 1) ∧ Q (some (aI (0 : Int32))) σ) ∧ (¬ x0 = (58 : Int32) → (x0 = (59 : Int32) → ((1 : Int32) = 0 ∨ (1 : Int32) = 1) ∧ Q (some (aI (1 : Int32))) σ) ∧ (¬ x0 = (59 : Int32) → (x0 = (60 : Int32) → ((0 : Int32) = 0 ∨ (0 : Int32) = 1) ∧ Q (some (aI (0 : Int32))) σ) ∧ (¬ x0 = (60 : Int32) → (x0 = (61 : Int32) → ((1 : Int32) = 0 ∨ (1 : Int32) = 1) ∧ Q (some (aI (1 : Int32))) σ) ∧ (¬ x0 = (61 : Int32) → ((0 : Int32) = 0 ∨ (0 : Int32) = 1) ∧ Q (some (aI (0 : Int32))) σ))))))))))))))))))))))) : Cl lay1 (d + 1) M_Te_standsAlone [aI x0] σ Q :=
  run_intro (Cl_mono lay1 d) [] 600 h
set_option maxRecDepth 50000 in
theorem bk_Jl_compare_0 {d : Nat} {σ : St} {Q : Option AV → St → Prop} (x0 : Int64) (x2 : Int64)
    (h : (0 ≤ (lg_cmp x0 x2) → ((lg_cmp x0 x2) = 0 → Q (some (aI (0 : Int32))) σ) ∧ (¬ (lg_cmp x0 x2) = 0 → Q (some (aI (1 : Int32))) σ)) ∧ (¬ 0 ≤ (lg_cmp x0 x2) → Q (some (aI (-1 : Int32))) σ)) : Cl lay1 (d + 1) M_Jl_compare [aJ x0, aJ x2] σ Q :=
  run_intro (Cl_mono lay1 d) [] 600 h
set_option maxRecDepth 50000 in
theorem bk_Jm_floorMod_0 {d : Nat} {σ : St} {Q : Option AV → St → Prop} (x0 : Int32) (x1 : Int32)
    (h : ¬ x1 = 0 ∧ ((0 ≤ (x0 ^^^ x1) → Q (some (aI (x0 - x0 / x1 * x1))) σ) ∧ (¬ 0 ≤ (x0 ^^^ x1) → ((x0 - x0 / x1 * x1) = 0 → Q (some (aI (x0 - x0 / x1 * x1))) σ) ∧ (¬ (x0 - x0 / x1 * x1) = 0 → Q (some (aI ((x0 - x0 / x1 * x1) + x1))) σ)))) : Cl lay1 (d + 1) M_Jm_floorMod [aI x0, aI x1] σ Q :=
  run_intro (Cl_mono lay1 d) [] 600 h
set_option maxRecDepth 50000 in
theorem bk_Jm_abs_0 {d : Nat} {σ : St} {Q : Option AV → St → Prop} (x0 : Int64)
    (h : (0 ≤ (lg_cmp x0 (0 : Int64)) → Q (some (aJ x0)) σ) ∧ (¬ 0 ≤ (lg_cmp x0 (0 : Int64)) → Q (some (aJ (-x0))) σ)) : Cl lay1 (d + 1) M_Jm_abs [aJ x0] σ Q :=
  run_intro (Cl_mono lay1 d) [] 600 h
set_option maxRecDepth 50000 in
theorem bk_Jm_min_0 {d : Nat} {σ : St} {Q : Option AV → St → Prop} (x0 : Int32) (x1 : Int32)
    (h : (x1 < x0 → Q (some (aI x1)) σ) ∧ (¬ x1 < x0 → Q (some (aI x0)) σ)) : Cl lay1 (d + 1) M_Jm_min [aI x0, aI x1] σ Q :=
  run_intro (Cl_mono lay1 d) [] 600 h
