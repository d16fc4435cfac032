/-! ===== the layout of what the two constructors make ===== -/
def layL : List (Nat × Nat × Nat) := [(3, 0, 4), (3, 1, 11), (3, 2, 29), (3, 3, 68), (4, 0, 5), (4, 1, 7), (4, 2, 9), (4, 3, 10), (5, 0, 6), (7, 0, 8), (11, 2, 13), (11, 3, 26), (11, 4, 27), (11, 5, 28), (29, 0, 30), (29, 1, 32), (29, 2, 35), (29, 3, 38), (29, 4, 41), (29, 5, 44), (29, 6, 45), (29, 7, 46), (29, 8, 47), (29, 9, 48), (29, 10, 49), (29, 11, 50), (29, 12, 51), (30, 1, 31), (32, 0, 33), (32, 1, 34), (35, 0, 36), (35, 1, 37), (38, 0, 39), (38, 1, 40), (41, 0, 42), (41, 1, 43), (68, 1, 69), (68, 2, 70), (71, 0, 72), (71, 9, 73), (71, 10, 74), (71, 11, 75), (71, 13, 76), (71, 14, 77), (71, 15, 78), (71, 20, 79), (71, 21, 80), (71, 22, 81), (71, 24, 82), (71, 25, 83), (71, 26, 84), (71, 32, 85), (71, 33, 86), (71, 34, 87), (71, 35, 88), (71, 36, 89), (71, 40, 90), (71, 41, 91), (71, 43, 92), (71, 48, 93), (71, 49, 94)]
def lkl : List (Nat × Nat × Nat) → Nat → Nat → Nat
  | [], _, _ => 0
  | q :: r, j, k => bif Nat.beq q.1 j && Nat.beq q.2.1 k then q.2.2 else lkl r j k
def lay1 (j k : Nat) : Nat := lkl layL j k
set_option maxRecDepth 50000 in
theorem bk0_Fr_init_0 {d : Nat} {σ : St} {Q : Option AV → St → Prop} (x0 : Nat)
    (h : Wp lay0 rtOf (Cl lay0 d) k_Fr_init 0 Q (9, [aO 0 (x0 + 1)], [], (pL σ (x0 + 1) 1 (1 : Int64)))) : Cl lay0 (d + 1) M_Fr_init [aO 0 (x0 + 1)] σ Q :=
  run_intro (Cl_mono lay0 d) [9] 600 h
set_option maxRecDepth 50000 in
theorem bk0_Fr_init_9 {d : Nat} {σ : St} {Q : Option AV → St → Prop} (u0 : AV)
    (h : Q none σ) : Wp lay0 rtOf (Cl lay0 d) k_Fr_init 0 Q (9, [u0], [], σ) :=
  run_intro (Cl_mono lay0 d) [9] 600 h
set_option maxRecDepth 50000 in
theorem bk0_La_init_0 {d : Nat} {σ : St} {Q : Option AV → St → Prop} (x0 : Nat)
    (h : Wp lay0 rtOf (Cl lay0 d) k_La_init 0 Q (9, [aO 1 (x0 + 1)], [], (pI σ (x0 + 1) 0 (3 : Int32)))) : Cl lay0 (d + 1) M_La_init [aO 1 (x0 + 1)] σ Q :=
  run_intro (Cl_mono lay0 d) [9, 17, 26] 600 h
set_option maxRecDepth 50000 in
theorem bk0_La_init_9 {d : Nat} {σ : St} {Q : Option AV → St → Prop} (x0 : Nat)
    (h : (0 ≤ (80 : Int32).toInt ∧ (80 : Int32).toInt ≤ 40000) ∧ (layC lay0 (x0 + 1) 1 (sN σ) ∧ (Wp lay0 rtOf (Cl lay0 d) k_La_init 0 Q (17, [aO 1 (x0 + 1)], [], (pR (nw σ 16 (ix (80 : Int32))) (x0 + 1) 1 (sN σ)))))) : Wp lay0 rtOf (Cl lay0 d) k_La_init 0 Q (9, [aO 1 (x0 + 1)], [], σ) :=
  run_intro (Cl_mono lay0 d) [9, 17, 26] 600 h
set_option maxRecDepth 50000 in
theorem bk0_La_init_17 {d : Nat} {σ : St} {Q : Option AV → St → Prop} (x0 : Nat)
    (h : (0 ≤ (961 : Int32).toInt ∧ (961 : Int32).toInt ≤ 40000) ∧ (layC lay0 (x0 + 1) 2 (sN σ) ∧ (Wp lay0 rtOf (Cl lay0 d) k_La_init 0 Q (26, [aO 1 (x0 + 1)], [], (pR (nw σ 17 (ix (961 : Int32))) (x0 + 1) 2 (sN σ)))))) : Wp lay0 rtOf (Cl lay0 d) k_La_init 0 Q (17, [aO 1 (x0 + 1)], [], σ) :=
  run_intro (Cl_mono lay0 d) [9, 17, 26] 600 h
set_option maxRecDepth 50000 in
theorem bk0_La_init_26 {d : Nat} {σ : St} {Q : Option AV → St → Prop} (u0 : AV)
    (h : Q none σ) : Wp lay0 rtOf (Cl lay0 d) k_La_init 0 Q (26, [u0], [], σ) :=
  run_intro (Cl_mono lay0 d) [9, 17, 26] 600 h
set_option maxRecDepth 50000 in
theorem bk0_Mo_init_0 {d : Nat} {σ : St} {Q : Option AV → St → Prop} (x0 : Nat)
    (h : nn (sN σ) (Cl lay0 d M_Fr_init [aO 0 (sN σ)] (nw σ 0 (nF 0)) (rV fun σ1 => layC lay0 (x0 + 1) 0 (sN σ) ∧ (Wp lay0 rtOf (Cl lay0 d) k_Mo_init 0 Q (15, [aO 3 (x0 + 1)], [], (pR σ1 (x0 + 1) 0 (sN σ))))))) : Cl lay0 (d + 1) M_Mo_init [aO 3 (x0 + 1)] σ Q :=
  run_intro (Cl_mono lay0 d) [15, 26] 600 h
set_option maxRecDepth 50000 in
theorem bk0_Mo_init_15 {d : Nat} {σ : St} {Q : Option AV → St → Prop} (x0 : Nat)
    (h : nn (sN σ) (Cl lay0 d M_Fr_init [aO 0 (sN σ)] (nw σ 0 (nF 0)) (rV fun σ1 => layC lay0 (x0 + 1) 1 (sN σ) ∧ (Wp lay0 rtOf (Cl lay0 d) k_Mo_init 0 Q (26, [aO 3 (x0 + 1)], [], (pR σ1 (x0 + 1) 1 (sN σ))))))) : Wp lay0 rtOf (Cl lay0 d) k_Mo_init 0 Q (15, [aO 3 (x0 + 1)], [], σ) :=
  run_intro (Cl_mono lay0 d) [15, 26] 600 h
set_option maxRecDepth 50000 in
theorem bk0_Mo_init_26 {d : Nat} {σ : St} {Q : Option AV → St → Prop} (u0 : AV)
    (h : Q none σ) : Wp lay0 rtOf (Cl lay0 d) k_Mo_init 0 Q (26, [u0], [], σ) :=
  run_intro (Cl_mono lay0 d) [15, 26] 600 h
set_option maxRecDepth 50000 in
theorem bk0_Op_init_0 {d : Nat} {σ : St} {Q : Option AV → St → Prop} (x0 : Nat)
    (h : nn (sN σ) (Cl lay0 d M_Rk_init [aO 7 (sN σ)] (nw σ 7 (nF 7)) (rV fun σ1 => layC lay0 (x0 + 1) 0 (sN σ) ∧ (Wp lay0 rtOf (Cl lay0 d) k_Op_init 0 Q (15, [aO 4 (x0 + 1), aZ], [], (pR σ1 (x0 + 1) 0 (sN σ))))))) : Cl lay0 (d + 1) M_Op_init [aO 4 (x0 + 1)] σ Q :=
  run_intro (Cl_mono lay0 d) [15, 26, 37, 48, 59, 70, 81, 92, 103, 114, 125, 134, 142, 144, 163, 171, 189] 600 h
set_option maxRecDepth 50000 in
theorem bk0_Op_init_15 {d : Nat} {σ : St} {Q : Option AV → St → Prop} (x0 : Nat) (u1 : AV)
    (h : nn (sN σ) (Cl lay0 d M_Mo_init [aO 3 (sN σ)] (nw σ 3 (nF 3)) (rV fun σ1 => layC lay0 (x0 + 1) 1 (sN σ) ∧ (Wp lay0 rtOf (Cl lay0 d) k_Op_init 0 Q (26, [aO 4 (x0 + 1), u1], [], (pR σ1 (x0 + 1) 1 (sN σ))))))) : Wp lay0 rtOf (Cl lay0 d) k_Op_init 0 Q (15, [aO 4 (x0 + 1), u1], [], σ) :=
  run_intro (Cl_mono lay0 d) [15, 26, 37, 48, 59, 70, 81, 92, 103, 114, 125, 134, 142, 144, 163, 171, 189] 600 h
set_option maxRecDepth 50000 in
theorem bk0_Op_init_26 {d : Nat} {σ : St} {Q : Option AV → St → Prop} (x0 : Nat) (u1 : AV)
    (h : nn (sN σ) (Cl lay0 d M_Mo_init [aO 3 (sN σ)] (nw σ 3 (nF 3)) (rV fun σ1 => layC lay0 (x0 + 1) 2 (sN σ) ∧ (Wp lay0 rtOf (Cl lay0 d) k_Op_init 0 Q (37, [aO 4 (x0 + 1), u1], [], (pR σ1 (x0 + 1) 2 (sN σ))))))) : Wp lay0 rtOf (Cl lay0 d) k_Op_init 0 Q (26, [aO 4 (x0 + 1), u1], [], σ) :=
  run_intro (Cl_mono lay0 d) [15, 26, 37, 48, 59, 70, 81, 92, 103, 114, 125, 134, 142, 144, 163, 171, 189] 600 h
set_option maxRecDepth 50000 in
theorem bk0_Op_init_37 {d : Nat} {σ : St} {Q : Option AV → St → Prop} (x0 : Nat) (u1 : AV)
    (h : nn (sN σ) (Cl lay0 d M_Mo_init [aO 3 (sN σ)] (nw σ 3 (nF 3)) (rV fun σ1 => layC lay0 (x0 + 1) 3 (sN σ) ∧ (Wp lay0 rtOf (Cl lay0 d) k_Op_init 0 Q (48, [aO 4 (x0 + 1), u1], [], (pR σ1 (x0 + 1) 3 (sN σ))))))) : Wp lay0 rtOf (Cl lay0 d) k_Op_init 0 Q (37, [aO 4 (x0 + 1), u1], [], σ) :=
  run_intro (Cl_mono lay0 d) [15, 26, 37, 48, 59, 70, 81, 92, 103, 114, 125, 134, 142, 144, 163, 171, 189] 600 h
set_option maxRecDepth 50000 in
theorem bk0_Op_init_48 {d : Nat} {σ : St} {Q : Option AV → St → Prop} (x0 : Nat) (u1 : AV)
    (h : nn (sN σ) (Cl lay0 d M_Mo_init [aO 3 (sN σ)] (nw σ 3 (nF 3)) (rV fun σ1 => layC lay0 (x0 + 1) 4 (sN σ) ∧ (Wp lay0 rtOf (Cl lay0 d) k_Op_init 0 Q (59, [aO 4 (x0 + 1), u1], [], (pR σ1 (x0 + 1) 4 (sN σ))))))) : Wp lay0 rtOf (Cl lay0 d) k_Op_init 0 Q (48, [aO 4 (x0 + 1), u1], [], σ) :=
  run_intro (Cl_mono lay0 d) [15, 26, 37, 48, 59, 70, 81, 92, 103, 114, 125, 134, 142, 144, 163, 171, 189] 600 h
set_option maxRecDepth 50000 in
theorem bk0_Op_init_59 {d : Nat} {σ : St} {Q : Option AV → St → Prop} (x0 : Nat) (u1 : AV)
    (h : nn (sN σ) (Cl lay0 d M_Fr_init [aO 0 (sN σ)] (nw σ 0 (nF 0)) (rV fun σ1 => layC lay0 (x0 + 1) 5 (sN σ) ∧ (Wp lay0 rtOf (Cl lay0 d) k_Op_init 0 Q (70, [aO 4 (x0 + 1), u1], [], (pR σ1 (x0 + 1) 5 (sN σ))))))) : Wp lay0 rtOf (Cl lay0 d) k_Op_init 0 Q (59, [aO 4 (x0 + 1), u1], [], σ) :=
  run_intro (Cl_mono lay0 d) [15, 26, 37, 48, 59, 70, 81, 92, 103, 114, 125, 134, 142, 144, 163, 171, 189] 600 h
set_option maxRecDepth 50000 in
theorem bk0_Op_init_70 {d : Nat} {σ : St} {Q : Option AV → St → Prop} (x0 : Nat) (u1 : AV)
    (h : nn (sN σ) (Cl lay0 d M_Fr_init [aO 0 (sN σ)] (nw σ 0 (nF 0)) (rV fun σ1 => layC lay0 (x0 + 1) 6 (sN σ) ∧ (Wp lay0 rtOf (Cl lay0 d) k_Op_init 0 Q (81, [aO 4 (x0 + 1), u1], [], (pR σ1 (x0 + 1) 6 (sN σ))))))) : Wp lay0 rtOf (Cl lay0 d) k_Op_init 0 Q (70, [aO 4 (x0 + 1), u1], [], σ) :=
  run_intro (Cl_mono lay0 d) [15, 26, 37, 48, 59, 70, 81, 92, 103, 114, 125, 134, 142, 144, 163, 171, 189] 600 h
set_option maxRecDepth 50000 in
theorem bk0_Op_init_81 {d : Nat} {σ : St} {Q : Option AV → St → Prop} (x0 : Nat) (u1 : AV)
    (h : nn (sN σ) (Cl lay0 d M_Fr_init [aO 0 (sN σ)] (nw σ 0 (nF 0)) (rV fun σ1 => layC lay0 (x0 + 1) 7 (sN σ) ∧ (Wp lay0 rtOf (Cl lay0 d) k_Op_init 0 Q (92, [aO 4 (x0 + 1), u1], [], (pR σ1 (x0 + 1) 7 (sN σ))))))) : Wp lay0 rtOf (Cl lay0 d) k_Op_init 0 Q (81, [aO 4 (x0 + 1), u1], [], σ) :=
  run_intro (Cl_mono lay0 d) [15, 26, 37, 48, 59, 70, 81, 92, 103, 114, 125, 134, 142, 144, 163, 171, 189] 600 h
set_option maxRecDepth 50000 in
theorem bk0_Op_init_92 {d : Nat} {σ : St} {Q : Option AV → St → Prop} (x0 : Nat) (u1 : AV)
    (h : nn (sN σ) (Cl lay0 d M_Fr_init [aO 0 (sN σ)] (nw σ 0 (nF 0)) (rV fun σ1 => layC lay0 (x0 + 1) 8 (sN σ) ∧ (Wp lay0 rtOf (Cl lay0 d) k_Op_init 0 Q (103, [aO 4 (x0 + 1), u1], [], (pR σ1 (x0 + 1) 8 (sN σ))))))) : Wp lay0 rtOf (Cl lay0 d) k_Op_init 0 Q (92, [aO 4 (x0 + 1), u1], [], σ) :=
  run_intro (Cl_mono lay0 d) [15, 26, 37, 48, 59, 70, 81, 92, 103, 114, 125, 134, 142, 144, 163, 171, 189] 600 h
set_option maxRecDepth 50000 in
theorem bk0_Op_init_103 {d : Nat} {σ : St} {Q : Option AV → St → Prop} (x0 : Nat) (u1 : AV)
    (h : nn (sN σ) (Cl lay0 d M_Fr_init [aO 0 (sN σ)] (nw σ 0 (nF 0)) (rV fun σ1 => layC lay0 (x0 + 1) 9 (sN σ) ∧ (Wp lay0 rtOf (Cl lay0 d) k_Op_init 0 Q (114, [aO 4 (x0 + 1), u1], [], (pR σ1 (x0 + 1) 9 (sN σ))))))) : Wp lay0 rtOf (Cl lay0 d) k_Op_init 0 Q (103, [aO 4 (x0 + 1), u1], [], σ) :=
  run_intro (Cl_mono lay0 d) [15, 26, 37, 48, 59, 70, 81, 92, 103, 114, 125, 134, 142, 144, 163, 171, 189] 600 h
set_option maxRecDepth 50000 in
theorem bk0_Op_init_114 {d : Nat} {σ : St} {Q : Option AV → St → Prop} (x0 : Nat) (u1 : AV)
    (h : nn (sN σ) (Cl lay0 d M_Fr_init [aO 0 (sN σ)] (nw σ 0 (nF 0)) (rV fun σ1 => layC lay0 (x0 + 1) 10 (sN σ) ∧ (Wp lay0 rtOf (Cl lay0 d) k_Op_init 0 Q (125, [aO 4 (x0 + 1), u1], [], (pR σ1 (x0 + 1) 10 (sN σ))))))) : Wp lay0 rtOf (Cl lay0 d) k_Op_init 0 Q (114, [aO 4 (x0 + 1), u1], [], σ) :=
  run_intro (Cl_mono lay0 d) [15, 26, 37, 48, 59, 70, 81, 92, 103, 114, 125, 134, 142, 144, 163, 171, 189] 600 h
set_option maxRecDepth 50000 in
theorem bk0_Op_init_125 {d : Nat} {σ : St} {Q : Option AV → St → Prop} (x0 : Nat) (u1 : AV)
    (h : (0 ≤ (12 : Int32).toInt ∧ (12 : Int32).toInt ≤ 40000) ∧ (layC lay0 (x0 + 1) 11 (sN σ) ∧ (Wp lay0 rtOf (Cl lay0 d) k_Op_init 0 Q (134, [aO 4 (x0 + 1), u1], [], (pR (nw σ 21 (ix (12 : Int32))) (x0 + 1) 11 (sN σ)))))) : Wp lay0 rtOf (Cl lay0 d) k_Op_init 0 Q (125, [aO 4 (x0 + 1), u1], [], σ) :=
  run_intro (Cl_mono lay0 d) [15, 26, 37, 48, 59, 70, 81, 92, 103, 114, 125, 134, 142, 144, 163, 171, 189] 600 h
set_option maxRecDepth 50000 in
theorem bk0_Op_init_134 {d : Nat} {σ : St} {Q : Option AV → St → Prop} (x0 : Nat) (u1 : AV)
    (h : (0 ≤ (4 : Int32).toInt ∧ (4 : Int32).toInt ≤ 40000) ∧ (layC lay0 (x0 + 1) 12 (sN σ) ∧ (Wp lay0 rtOf (Cl lay0 d) k_Op_init 0 Q (142, [aO 4 (x0 + 1), u1], [], (pR (nw σ 21 (ix (4 : Int32))) (x0 + 1) 12 (sN σ)))))) : Wp lay0 rtOf (Cl lay0 d) k_Op_init 0 Q (134, [aO 4 (x0 + 1), u1], [], σ) :=
  run_intro (Cl_mono lay0 d) [15, 26, 37, 48, 59, 70, 81, 92, 103, 114, 125, 134, 142, 144, 163, 171, 189] 600 h
set_option maxRecDepth 50000 in
theorem bk0_Op_init_142 {d : Nat} {σ : St} {Q : Option AV → St → Prop} (x0 : Nat) (u1 : AV)
    (h : Wp lay0 rtOf (Cl lay0 d) k_Op_init 0 Q (144, [aO 4 (x0 + 1), aI (0 : Int32)], [], σ)) : Wp lay0 rtOf (Cl lay0 d) k_Op_init 0 Q (142, [aO 4 (x0 + 1), u1], [], σ) :=
  run_intro (Cl_mono lay0 d) [15, 26, 37, 48, 59, 70, 81, 92, 103, 114, 125, 134, 142, 144, 163, 171, 189] 600 h
set_option maxRecDepth 50000 in
theorem bk0_Op_init_144 {d : Nat} {σ : St} {Q : Option AV → St → Prop} (x0 : Nat) (x1 : Int32)
    (h : ((12 : Int32) ≤ x1 → Wp lay0 rtOf (Cl lay0 d) k_Op_init 0 Q (171, [aO 4 (x0 + 1), aI (0 : Int32)], [], σ)) ∧ (¬ (12 : Int32) ≤ x1 → nn (sN σ) (Cl lay0 d M_Fr_init [aO 0 (sN σ)] (nw σ 0 (nF 0)) (rV fun σ1 => nn (gR σ (x0 + 1) 11) ((inb x1 (gN σ1 (gR σ (x0 + 1) 11)) ∧ layC lay0 (gR σ (x0 + 1) 11) (ix x1) (sN σ)) ∧ (Wp lay0 rtOf (Cl lay0 d) k_Op_init 0 Q (163, [aO 4 (x0 + 1), aI x1], [], (pR σ1 (gR σ (x0 + 1) 11) (ix x1) (sN σ))))))))) : Wp lay0 rtOf (Cl lay0 d) k_Op_init 0 Q (144, [aO 4 (x0 + 1), aI x1], [], σ) :=
  run_intro (Cl_mono lay0 d) [15, 26, 37, 48, 59, 70, 81, 92, 103, 114, 125, 134, 142, 144, 163, 171, 189] 600 h
set_option maxRecDepth 50000 in
theorem bk0_Op_init_163 {d : Nat} {σ : St} {Q : Option AV → St → Prop} (x0 : Nat) (x1 : Int32)
    (h : Wp lay0 rtOf (Cl lay0 d) k_Op_init 0 Q (144, [aO 4 (x0 + 1), aI (x1 + (1 : Int32))], [], σ)) : Wp lay0 rtOf (Cl lay0 d) k_Op_init 0 Q (163, [aO 4 (x0 + 1), aI x1], [], σ) :=
  run_intro (Cl_mono lay0 d) [15, 26, 37, 48, 59, 70, 81, 92, 103, 114, 125, 134, 142, 144, 163, 171, 189] 600 h
set_option maxRecDepth 50000 in
theorem bk0_Op_init_171 {d : Nat} {σ : St} {Q : Option AV → St → Prop} (x0 : Nat) (x1 : Int32)
    (h : ((4 : Int32) ≤ x1 → Q none σ) ∧ (¬ (4 : Int32) ≤ x1 → nn (sN σ) (Cl lay0 d M_Fr_init [aO 0 (sN σ)] (nw σ 0 (nF 0)) (rV fun σ1 => nn (gR σ (x0 + 1) 12) ((inb x1 (gN σ1 (gR σ (x0 + 1) 12)) ∧ layC lay0 (gR σ (x0 + 1) 12) (ix x1) (sN σ)) ∧ (Wp lay0 rtOf (Cl lay0 d) k_Op_init 0 Q (189, [aO 4 (x0 + 1), aI x1], [], (pR σ1 (gR σ (x0 + 1) 12) (ix x1) (sN σ))))))))) : Wp lay0 rtOf (Cl lay0 d) k_Op_init 0 Q (171, [aO 4 (x0 + 1), aI x1], [], σ) :=
  run_intro (Cl_mono lay0 d) [15, 26, 37, 48, 59, 70, 81, 92, 103, 114, 125, 134, 142, 144, 163, 171, 189] 600 h
set_option maxRecDepth 50000 in
theorem bk0_Op_init_189 {d : Nat} {σ : St} {Q : Option AV → St → Prop} (x0 : Nat) (x1 : Int32)
    (h : Wp lay0 rtOf (Cl lay0 d) k_Op_init 0 Q (171, [aO 4 (x0 + 1), aI (x1 + (1 : Int32))], [], σ)) : Wp lay0 rtOf (Cl lay0 d) k_Op_init 0 Q (189, [aO 4 (x0 + 1), aI x1], [], σ) :=
  run_intro (Cl_mono lay0 d) [15, 26, 37, 48, 59, 70, 81, 92, 103, 114, 125, 134, 142, 144, 163, 171, 189] 600 h
set_option maxRecDepth 50000 in
theorem bk0_Re_init_0 {d : Nat} {σ : St} {Q : Option AV → St → Prop} (x0 : Nat)
    (h : nn (sN σ) (Cl lay0 d M_Te_init [aO 10 (sN σ)] (nw σ 10 (nF 10)) (rV fun σ1 => layC lay0 (x0 + 1) 0 (sN σ) ∧ (Wp lay0 rtOf (Cl lay0 d) k_Re_init 0 Q (15, [aO 6 (x0 + 1)], [], (pR σ1 (x0 + 1) 0 (sN σ))))))) : Cl lay0 (d + 1) M_Re_init [aO 6 (x0 + 1)] σ Q :=
  run_intro (Cl_mono lay0 d) [15, 26, 34, 42] 600 h
set_option maxRecDepth 50000 in
theorem bk0_Re_init_15 {d : Nat} {σ : St} {Q : Option AV → St → Prop} (x0 : Nat)
    (h : nn (sN σ) (Cl lay0 d M_Ro_init [aO 9 (sN σ)] (nw σ 9 (nF 9)) (rV fun σ1 => layC lay0 (x0 + 1) 1 (sN σ) ∧ (Wp lay0 rtOf (Cl lay0 d) k_Re_init 0 Q (26, [aO 6 (x0 + 1)], [], (pR σ1 (x0 + 1) 1 (sN σ))))))) : Wp lay0 rtOf (Cl lay0 d) k_Re_init 0 Q (15, [aO 6 (x0 + 1)], [], σ) :=
  run_intro (Cl_mono lay0 d) [15, 26, 34, 42] 600 h
set_option maxRecDepth 50000 in
theorem bk0_Re_init_26 {d : Nat} {σ : St} {Q : Option AV → St → Prop} (x0 : Nat)
    (h : (0 ≤ (6 : Int32).toInt ∧ (6 : Int32).toInt ≤ 40000) ∧ (layC lay0 (x0 + 1) 2 (sN σ) ∧ (Wp lay0 rtOf (Cl lay0 d) k_Re_init 0 Q (34, [aO 6 (x0 + 1)], [], (pR (nw σ 16 (ix (6 : Int32))) (x0 + 1) 2 (sN σ)))))) : Wp lay0 rtOf (Cl lay0 d) k_Re_init 0 Q (26, [aO 6 (x0 + 1)], [], σ) :=
  run_intro (Cl_mono lay0 d) [15, 26, 34, 42] 600 h
set_option maxRecDepth 50000 in
theorem bk0_Re_init_34 {d : Nat} {σ : St} {Q : Option AV → St → Prop} (x0 : Nat)
    (h : (0 ≤ (6 : Int32).toInt ∧ (6 : Int32).toInt ≤ 40000) ∧ (layC lay0 (x0 + 1) 3 (sN σ) ∧ (Wp lay0 rtOf (Cl lay0 d) k_Re_init 0 Q (42, [aO 6 (x0 + 1)], [], (pR (nw σ 16 (ix (6 : Int32))) (x0 + 1) 3 (sN σ)))))) : Wp lay0 rtOf (Cl lay0 d) k_Re_init 0 Q (34, [aO 6 (x0 + 1)], [], σ) :=
  run_intro (Cl_mono lay0 d) [15, 26, 34, 42] 600 h
set_option maxRecDepth 50000 in
theorem bk0_Re_init_42 {d : Nat} {σ : St} {Q : Option AV → St → Prop} (u0 : AV)
    (h : Q none σ) : Wp lay0 rtOf (Cl lay0 d) k_Re_init 0 Q (42, [u0], [], σ) :=
  run_intro (Cl_mono lay0 d) [15, 26, 34, 42] 600 h
set_option maxRecDepth 50000 in
theorem bk0_Rk_init_0 {d : Nat} {σ : St} {Q : Option AV → St → Prop} (x0 : Nat)
    (h : nn (sN σ) (Cl lay0 d M_Fr_init [aO 0 (sN σ)] (nw σ 0 (nF 0)) (rV fun σ1 => layC lay0 (x0 + 1) 1 (sN σ) ∧ (Wp lay0 rtOf (Cl lay0 d) k_Rk_init 0 Q (15, [aO 7 (x0 + 1)], [], (pR σ1 (x0 + 1) 1 (sN σ))))))) : Cl lay0 (d + 1) M_Rk_init [aO 7 (x0 + 1)] σ Q :=
  run_intro (Cl_mono lay0 d) [15] 600 h
set_option maxRecDepth 50000 in
theorem bk0_Rk_init_15 {d : Nat} {σ : St} {Q : Option AV → St → Prop} (u0 : AV)
    (h : Q none σ) : Wp lay0 rtOf (Cl lay0 d) k_Rk_init 0 Q (15, [u0], [], σ) :=
  run_intro (Cl_mono lay0 d) [15] 600 h
set_option maxRecDepth 50000 in
theorem bk0_Ri_init_0 {d : Nat} {σ : St} {Q : Option AV → St → Prop} (x0 : Nat)
    (h : (0 ≤ (0 : Int32).toInt ∧ (0 : Int32).toInt ≤ 40000) ∧ (layC lay0 (x0 + 1) 0 (sN σ) ∧ (Wp lay0 rtOf (Cl lay0 d) k_Ri_init 0 Q (12, [aO 8 (x0 + 1), aZ], [], (pR (nw σ 20 (ix (0 : Int32))) (x0 + 1) 0 (sN σ)))))) : Cl lay0 (d + 1) M_Ri_init [aO 8 (x0 + 1)] σ Q :=
  run_intro (Cl_mono lay0 d) [12, 21, 23, 42, 56, 64, 72] 600 h
set_option maxRecDepth 50000 in
theorem bk0_Ri_init_12 {d : Nat} {σ : St} {Q : Option AV → St → Prop} (x0 : Nat) (u1 : AV)
    (h : (0 ≤ (12 : Int32).toInt ∧ (12 : Int32).toInt ≤ 40000) ∧ (layC lay0 (x0 + 1) 2 (sN σ) ∧ (Wp lay0 rtOf (Cl lay0 d) k_Ri_init 0 Q (21, [aO 8 (x0 + 1), u1], [], (pR (nw σ 21 (ix (12 : Int32))) (x0 + 1) 2 (sN σ)))))) : Wp lay0 rtOf (Cl lay0 d) k_Ri_init 0 Q (12, [aO 8 (x0 + 1), u1], [], σ) :=
  run_intro (Cl_mono lay0 d) [12, 21, 23, 42, 56, 64, 72] 600 h
set_option maxRecDepth 50000 in
theorem bk0_Ri_init_21 {d : Nat} {σ : St} {Q : Option AV → St → Prop} (x0 : Nat) (u1 : AV)
    (h : Wp lay0 rtOf (Cl lay0 d) k_Ri_init 0 Q (23, [aO 8 (x0 + 1), aI (0 : Int32)], [], σ)) : Wp lay0 rtOf (Cl lay0 d) k_Ri_init 0 Q (21, [aO 8 (x0 + 1), u1], [], σ) :=
  run_intro (Cl_mono lay0 d) [12, 21, 23, 42, 56, 64, 72] 600 h
set_option maxRecDepth 50000 in
theorem bk0_Ri_init_23 {d : Nat} {σ : St} {Q : Option AV → St → Prop} (x0 : Nat) (x1 : Int32)
    (h : ((12 : Int32) ≤ x1 → (0 ≤ (12 : Int32).toInt ∧ (12 : Int32).toInt ≤ 40000) ∧ (layC lay0 (x0 + 1) 3 (sN σ) ∧ (Wp lay0 rtOf (Cl lay0 d) k_Ri_init 0 Q (56, [aO 8 (x0 + 1), aI x1], [], (pR (nw σ 16 (ix (12 : Int32))) (x0 + 1) 3 (sN σ)))))) ∧ (¬ (12 : Int32) ≤ x1 → nn (sN σ) (Cl lay0 d M_Fr_init [aO 0 (sN σ)] (nw σ 0 (nF 0)) (rV fun σ1 => nn (gR σ (x0 + 1) 2) ((inb x1 (gN σ1 (gR σ (x0 + 1) 2)) ∧ layC lay0 (gR σ (x0 + 1) 2) (ix x1) (sN σ)) ∧ (Wp lay0 rtOf (Cl lay0 d) k_Ri_init 0 Q (42, [aO 8 (x0 + 1), aI x1], [], (pR σ1 (gR σ (x0 + 1) 2) (ix x1) (sN σ))))))))) : Wp lay0 rtOf (Cl lay0 d) k_Ri_init 0 Q (23, [aO 8 (x0 + 1), aI x1], [], σ) :=
  run_intro (Cl_mono lay0 d) [12, 21, 23, 42, 56, 64, 72] 600 h
set_option maxRecDepth 50000 in
theorem bk0_Ri_init_42 {d : Nat} {σ : St} {Q : Option AV → St → Prop} (x0 : Nat) (x1 : Int32)
    (h : Wp lay0 rtOf (Cl lay0 d) k_Ri_init 0 Q (23, [aO 8 (x0 + 1), aI (x1 + (1 : Int32))], [], σ)) : Wp lay0 rtOf (Cl lay0 d) k_Ri_init 0 Q (42, [aO 8 (x0 + 1), aI x1], [], σ) :=
  run_intro (Cl_mono lay0 d) [12, 21, 23, 42, 56, 64, 72] 600 h
set_option maxRecDepth 50000 in
theorem bk0_Ri_init_56 {d : Nat} {σ : St} {Q : Option AV → St → Prop} (x0 : Nat) (u1 : AV)
    (h : (0 ≤ (12 : Int32).toInt ∧ (12 : Int32).toInt ≤ 40000) ∧ (layC lay0 (x0 + 1) 4 (sN σ) ∧ (Wp lay0 rtOf (Cl lay0 d) k_Ri_init 0 Q (64, [aO 8 (x0 + 1), u1], [], (pR (nw σ 16 (ix (12 : Int32))) (x0 + 1) 4 (sN σ)))))) : Wp lay0 rtOf (Cl lay0 d) k_Ri_init 0 Q (56, [aO 8 (x0 + 1), u1], [], σ) :=
  run_intro (Cl_mono lay0 d) [12, 21, 23, 42, 56, 64, 72] 600 h
set_option maxRecDepth 50000 in
theorem bk0_Ri_init_64 {d : Nat} {σ : St} {Q : Option AV → St → Prop} (x0 : Nat) (u1 : AV)
    (h : (0 ≤ (80 : Int32).toInt ∧ (80 : Int32).toInt ≤ 40000) ∧ (layC lay0 (x0 + 1) 5 (sN σ) ∧ (Wp lay0 rtOf (Cl lay0 d) k_Ri_init 0 Q (72, [aO 8 (x0 + 1), u1], [], (pR (nw σ 16 (ix (80 : Int32))) (x0 + 1) 5 (sN σ)))))) : Wp lay0 rtOf (Cl lay0 d) k_Ri_init 0 Q (64, [aO 8 (x0 + 1), u1], [], σ) :=
  run_intro (Cl_mono lay0 d) [12, 21, 23, 42, 56, 64, 72] 600 h
set_option maxRecDepth 50000 in
theorem bk0_Ri_init_72 {d : Nat} {σ : St} {Q : Option AV → St → Prop} (u0 : AV) (u1 : AV)
    (h : Q none σ) : Wp lay0 rtOf (Cl lay0 d) k_Ri_init 0 Q (72, [u0, u1], [], σ) :=
  run_intro (Cl_mono lay0 d) [12, 21, 23, 42, 56, 64, 72] 600 h
set_option maxRecDepth 50000 in
theorem bk0_Ro_init_0 {d : Nat} {σ : St} {Q : Option AV → St → Prop} (x0 : Nat)
    (h : (0 ≤ (80 : Int32).toInt ∧ (80 : Int32).toInt ≤ 40000) ∧ (layC lay0 (x0 + 1) 0 (sN σ) ∧ (Wp lay0 rtOf (Cl lay0 d) k_Ro_init 0 Q (13, [aO 9 (x0 + 1)], [], (pR (nw σ 20 (ix (80 : Int32))) (x0 + 1) 0 (sN σ)))))) : Cl lay0 (d + 1) M_Ro_init [aO 9 (x0 + 1)] σ Q :=
  run_intro (Cl_mono lay0 d) [13] 600 h
set_option maxRecDepth 50000 in
theorem bk0_Ro_init_13 {d : Nat} {σ : St} {Q : Option AV → St → Prop} (u0 : AV)
    (h : Q none σ) : Wp lay0 rtOf (Cl lay0 d) k_Ro_init 0 Q (13, [u0], [], σ) :=
  run_intro (Cl_mono lay0 d) [13] 600 h
set_option maxRecDepth 50000 in
theorem bk0_Te_init_0 {d : Nat} {σ : St} {Q : Option AV → St → Prop} (x0 : Nat)
    (h : (0 ≤ (1500 : Int32).toInt ∧ (1500 : Int32).toInt ≤ 40000) ∧ (layC lay0 (x0 + 1) 0 (sN σ) ∧ (Wp lay0 rtOf (Cl lay0 d) k_Te_init 0 Q (13, [aO 10 (x0 + 1)], [], (pR (nw σ 18 (ix (1500 : Int32))) (x0 + 1) 0 (sN σ)))))) : Cl lay0 (d + 1) M_Te_init [aO 10 (x0 + 1)] σ Q :=
  run_intro (Cl_mono lay0 d) [13] 600 h
set_option maxRecDepth 50000 in
theorem bk0_Te_init_13 {d : Nat} {σ : St} {Q : Option AV → St → Prop} (u0 : AV)
    (h : Q none σ) : Wp lay0 rtOf (Cl lay0 d) k_Te_init 0 Q (13, [u0], [], σ) :=
  run_intro (Cl_mono lay0 d) [13] 600 h
set_option maxRecDepth 50000 in
theorem bk0_C_init_0 {d : Nat} {σ : St} {Q : Option AV → St → Prop} (x0 : Nat)
    (h : nn (sN σ) (Cl lay0 d M_Re_init [aO 6 (sN σ)] (nw σ 6 (nF 6)) (rV fun σ1 => layC lay0 (x0 + 1) 0 (sN σ) ∧ (Wp lay0 rtOf (Cl lay0 d) k_C_init 0 Q (15, [aO 11 (x0 + 1)], [], (pR σ1 (x0 + 1) 0 (sN σ))))))) : Cl lay0 (d + 1) M_C_init [aO 11 (x0 + 1)] σ Q :=
  run_intro (Cl_mono lay0 d) [15, 26, 37, 48, 54] 600 h
set_option maxRecDepth 50000 in
theorem bk0_C_init_15 {d : Nat} {σ : St} {Q : Option AV → St → Prop} (x0 : Nat)
    (h : nn (sN σ) (Cl lay0 d M_Ri_init [aO 8 (sN σ)] (nw σ 8 (nF 8)) (rV fun σ1 => layC lay0 (x0 + 1) 1 (sN σ) ∧ (Wp lay0 rtOf (Cl lay0 d) k_C_init 0 Q (26, [aO 11 (x0 + 1)], [], (pR σ1 (x0 + 1) 1 (sN σ))))))) : Wp lay0 rtOf (Cl lay0 d) k_C_init 0 Q (15, [aO 11 (x0 + 1)], [], σ) :=
  run_intro (Cl_mono lay0 d) [15, 26, 37, 48, 54] 600 h
set_option maxRecDepth 50000 in
theorem bk0_C_init_26 {d : Nat} {σ : St} {Q : Option AV → St → Prop} (x0 : Nat)
    (h : nn (sN σ) (Cl lay0 d M_Op_init [aO 4 (sN σ)] (nw σ 4 (nF 4)) (rV fun σ1 => layC lay0 (x0 + 1) 2 (sN σ) ∧ (Wp lay0 rtOf (Cl lay0 d) k_C_init 0 Q (37, [aO 11 (x0 + 1)], [], (pR σ1 (x0 + 1) 2 (sN σ))))))) : Wp lay0 rtOf (Cl lay0 d) k_C_init 0 Q (26, [aO 11 (x0 + 1)], [], σ) :=
  run_intro (Cl_mono lay0 d) [15, 26, 37, 48, 54] 600 h
set_option maxRecDepth 50000 in
theorem bk0_C_init_37 {d : Nat} {σ : St} {Q : Option AV → St → Prop} (x0 : Nat)
    (h : nn (sN σ) (Cl lay0 d M_La_init [aO 1 (sN σ)] (nw σ 1 (nF 1)) (rV fun σ1 => layC lay0 (x0 + 1) 3 (sN σ) ∧ (Wp lay0 rtOf (Cl lay0 d) k_C_init 0 Q (48, [aO 11 (x0 + 1)], [], (pR σ1 (x0 + 1) 3 (sN σ))))))) : Wp lay0 rtOf (Cl lay0 d) k_C_init 0 Q (37, [aO 11 (x0 + 1)], [], σ) :=
  run_intro (Cl_mono lay0 d) [15, 26, 37, 48, 54] 600 h
set_option maxRecDepth 50000 in
theorem bk0_C_init_48 {d : Nat} {σ : St} {Q : Option AV → St → Prop} (x0 : Nat)
    (h : Wp lay0 rtOf (Cl lay0 d) k_C_init 0 Q (54, [aO 11 (x0 + 1)], [], (pI σ (x0 + 1) 4 (-4 : Int32)))) : Wp lay0 rtOf (Cl lay0 d) k_C_init 0 Q (48, [aO 11 (x0 + 1)], [], σ) :=
  run_intro (Cl_mono lay0 d) [15, 26, 37, 48, 54] 600 h
set_option maxRecDepth 50000 in
theorem bk0_C_init_54 {d : Nat} {σ : St} {Q : Option AV → St → Prop} (u0 : AV)
    (h : Q none σ) : Wp lay0 rtOf (Cl lay0 d) k_C_init 0 Q (54, [u0], [], σ) :=
  run_intro (Cl_mono lay0 d) [15, 26, 37, 48, 54] 600 h
set_option maxRecDepth 50000 in
theorem bk0_R_init_0 {d : Nat} {σ : St} {Q : Option AV → St → Prop} (x0 : Nat)
    (h : (0 ≤ (1500 : Int32).toInt ∧ (1500 : Int32).toInt ≤ 40000) ∧ (layC lay0 (x0 + 1) 0 (sN σ) ∧ (Wp lay0 rtOf (Cl lay0 d) k_R_init 0 Q (13, [aO 12 (x0 + 1)], [], (pR (nw σ 16 (ix (1500 : Int32))) (x0 + 1) 0 (sN σ)))))) : Cl lay0 (d + 1) M_R_init [aO 12 (x0 + 1)] σ Q :=
  run_intro (Cl_mono lay0 d) [13, 22, 31, 40, 49, 58, 67, 75, 83, 91, 99, 107, 115, 123, 131, 139, 147, 155, 163, 171, 179, 187, 196, 202] 600 h
set_option maxRecDepth 50000 in
theorem bk0_R_init_13 {d : Nat} {σ : St} {Q : Option AV → St → Prop} (x0 : Nat)
    (h : (0 ≤ (400 : Int32).toInt ∧ (400 : Int32).toInt ≤ 40000) ∧ (layC lay0 (x0 + 1) 9 (sN σ) ∧ (Wp lay0 rtOf (Cl lay0 d) k_R_init 0 Q (22, [aO 12 (x0 + 1)], [], (pR (nw σ 19 (ix (400 : Int32))) (x0 + 1) 9 (sN σ)))))) : Wp lay0 rtOf (Cl lay0 d) k_R_init 0 Q (13, [aO 12 (x0 + 1)], [], σ) :=
  run_intro (Cl_mono lay0 d) [13, 22, 31, 40, 49, 58, 67, 75, 83, 91, 99, 107, 115, 123, 131, 139, 147, 155, 163, 171, 179, 187, 196, 202] 600 h
set_option maxRecDepth 50000 in
theorem bk0_R_init_22 {d : Nat} {σ : St} {Q : Option AV → St → Prop} (x0 : Nat)
    (h : (0 ≤ (400 : Int32).toInt ∧ (400 : Int32).toInt ≤ 40000) ∧ (layC lay0 (x0 + 1) 10 (sN σ) ∧ (Wp lay0 rtOf (Cl lay0 d) k_R_init 0 Q (31, [aO 12 (x0 + 1)], [], (pR (nw σ 16 (ix (400 : Int32))) (x0 + 1) 10 (sN σ)))))) : Wp lay0 rtOf (Cl lay0 d) k_R_init 0 Q (22, [aO 12 (x0 + 1)], [], σ) :=
  run_intro (Cl_mono lay0 d) [13, 22, 31, 40, 49, 58, 67, 75, 83, 91, 99, 107, 115, 123, 131, 139, 147, 155, 163, 171, 179, 187, 196, 202] 600 h
set_option maxRecDepth 50000 in
theorem bk0_R_init_31 {d : Nat} {σ : St} {Q : Option AV → St → Prop} (x0 : Nat)
    (h : (0 ≤ (400 : Int32).toInt ∧ (400 : Int32).toInt ≤ 40000) ∧ (layC lay0 (x0 + 1) 11 (sN σ) ∧ (Wp lay0 rtOf (Cl lay0 d) k_R_init 0 Q (40, [aO 12 (x0 + 1)], [], (pR (nw σ 16 (ix (400 : Int32))) (x0 + 1) 11 (sN σ)))))) : Wp lay0 rtOf (Cl lay0 d) k_R_init 0 Q (31, [aO 12 (x0 + 1)], [], σ) :=
  run_intro (Cl_mono lay0 d) [13, 22, 31, 40, 49, 58, 67, 75, 83, 91, 99, 107, 115, 123, 131, 139, 147, 155, 163, 171, 179, 187, 196, 202] 600 h
set_option maxRecDepth 50000 in
theorem bk0_R_init_40 {d : Nat} {σ : St} {Q : Option AV → St → Prop} (x0 : Nat)
    (h : (0 ≤ (32000 : Int32).toInt ∧ (32000 : Int32).toInt ≤ 40000) ∧ (layC lay0 (x0 + 1) 13 (sN σ) ∧ (Wp lay0 rtOf (Cl lay0 d) k_R_init 0 Q (49, [aO 12 (x0 + 1)], [], (pR (nw σ 16 (ix (32000 : Int32))) (x0 + 1) 13 (sN σ)))))) : Wp lay0 rtOf (Cl lay0 d) k_R_init 0 Q (40, [aO 12 (x0 + 1)], [], σ) :=
  run_intro (Cl_mono lay0 d) [13, 22, 31, 40, 49, 58, 67, 75, 83, 91, 99, 107, 115, 123, 131, 139, 147, 155, 163, 171, 179, 187, 196, 202] 600 h
set_option maxRecDepth 50000 in
theorem bk0_R_init_49 {d : Nat} {σ : St} {Q : Option AV → St → Prop} (x0 : Nat)
    (h : (0 ≤ (32000 : Int32).toInt ∧ (32000 : Int32).toInt ≤ 40000) ∧ (layC lay0 (x0 + 1) 14 (sN σ) ∧ (Wp lay0 rtOf (Cl lay0 d) k_R_init 0 Q (58, [aO 12 (x0 + 1)], [], (pR (nw σ 19 (ix (32000 : Int32))) (x0 + 1) 14 (sN σ)))))) : Wp lay0 rtOf (Cl lay0 d) k_R_init 0 Q (49, [aO 12 (x0 + 1)], [], σ) :=
  run_intro (Cl_mono lay0 d) [13, 22, 31, 40, 49, 58, 67, 75, 83, 91, 99, 107, 115, 123, 131, 139, 147, 155, 163, 171, 179, 187, 196, 202] 600 h
set_option maxRecDepth 50000 in
theorem bk0_R_init_58 {d : Nat} {σ : St} {Q : Option AV → St → Prop} (x0 : Nat)
    (h : (0 ≤ (32000 : Int32).toInt ∧ (32000 : Int32).toInt ≤ 40000) ∧ (layC lay0 (x0 + 1) 15 (sN σ) ∧ (Wp lay0 rtOf (Cl lay0 d) k_R_init 0 Q (67, [aO 12 (x0 + 1)], [], (pR (nw σ 19 (ix (32000 : Int32))) (x0 + 1) 15 (sN σ)))))) : Wp lay0 rtOf (Cl lay0 d) k_R_init 0 Q (58, [aO 12 (x0 + 1)], [], σ) :=
  run_intro (Cl_mono lay0 d) [13, 22, 31, 40, 49, 58, 67, 75, 83, 91, 99, 107, 115, 123, 131, 139, 147, 155, 163, 171, 179, 187, 196, 202] 600 h
set_option maxRecDepth 50000 in
theorem bk0_R_init_67 {d : Nat} {σ : St} {Q : Option AV → St → Prop} (x0 : Nat)
    (h : (0 ≤ (82 : Int32).toInt ∧ (82 : Int32).toInt ≤ 40000) ∧ (layC lay0 (x0 + 1) 20 (sN σ) ∧ (Wp lay0 rtOf (Cl lay0 d) k_R_init 0 Q (75, [aO 12 (x0 + 1)], [], (pR (nw σ 16 (ix (82 : Int32))) (x0 + 1) 20 (sN σ)))))) : Wp lay0 rtOf (Cl lay0 d) k_R_init 0 Q (67, [aO 12 (x0 + 1)], [], σ) :=
  run_intro (Cl_mono lay0 d) [13, 22, 31, 40, 49, 58, 67, 75, 83, 91, 99, 107, 115, 123, 131, 139, 147, 155, 163, 171, 179, 187, 196, 202] 600 h
set_option maxRecDepth 50000 in
theorem bk0_R_init_75 {d : Nat} {σ : St} {Q : Option AV → St → Prop} (x0 : Nat)
    (h : (0 ≤ (82 : Int32).toInt ∧ (82 : Int32).toInt ≤ 40000) ∧ (layC lay0 (x0 + 1) 21 (sN σ) ∧ (Wp lay0 rtOf (Cl lay0 d) k_R_init 0 Q (83, [aO 12 (x0 + 1)], [], (pR (nw σ 19 (ix (82 : Int32))) (x0 + 1) 21 (sN σ)))))) : Wp lay0 rtOf (Cl lay0 d) k_R_init 0 Q (75, [aO 12 (x0 + 1)], [], σ) :=
  run_intro (Cl_mono lay0 d) [13, 22, 31, 40, 49, 58, 67, 75, 83, 91, 99, 107, 115, 123, 131, 139, 147, 155, 163, 171, 179, 187, 196, 202] 600 h
set_option maxRecDepth 50000 in
theorem bk0_R_init_83 {d : Nat} {σ : St} {Q : Option AV → St → Prop} (x0 : Nat)
    (h : (0 ≤ (82 : Int32).toInt ∧ (82 : Int32).toInt ≤ 40000) ∧ (layC lay0 (x0 + 1) 22 (sN σ) ∧ (Wp lay0 rtOf (Cl lay0 d) k_R_init 0 Q (91, [aO 12 (x0 + 1)], [], (pR (nw σ 19 (ix (82 : Int32))) (x0 + 1) 22 (sN σ)))))) : Wp lay0 rtOf (Cl lay0 d) k_R_init 0 Q (83, [aO 12 (x0 + 1)], [], σ) :=
  run_intro (Cl_mono lay0 d) [13, 22, 31, 40, 49, 58, 67, 75, 83, 91, 99, 107, 115, 123, 131, 139, 147, 155, 163, 171, 179, 187, 196, 202] 600 h
set_option maxRecDepth 50000 in
theorem bk0_R_init_91 {d : Nat} {σ : St} {Q : Option AV → St → Prop} (x0 : Nat)
    (h : (0 ≤ (8 : Int32).toInt ∧ (8 : Int32).toInt ≤ 40000) ∧ (layC lay0 (x0 + 1) 24 (sN σ) ∧ (Wp lay0 rtOf (Cl lay0 d) k_R_init 0 Q (99, [aO 12 (x0 + 1)], [], (pR (nw σ 16 (ix (8 : Int32))) (x0 + 1) 24 (sN σ)))))) : Wp lay0 rtOf (Cl lay0 d) k_R_init 0 Q (91, [aO 12 (x0 + 1)], [], σ) :=
  run_intro (Cl_mono lay0 d) [13, 22, 31, 40, 49, 58, 67, 75, 83, 91, 99, 107, 115, 123, 131, 139, 147, 155, 163, 171, 179, 187, 196, 202] 600 h
set_option maxRecDepth 50000 in
theorem bk0_R_init_99 {d : Nat} {σ : St} {Q : Option AV → St → Prop} (x0 : Nat)
    (h : (0 ≤ (8 : Int32).toInt ∧ (8 : Int32).toInt ≤ 40000) ∧ (layC lay0 (x0 + 1) 25 (sN σ) ∧ (Wp lay0 rtOf (Cl lay0 d) k_R_init 0 Q (107, [aO 12 (x0 + 1)], [], (pR (nw σ 16 (ix (8 : Int32))) (x0 + 1) 25 (sN σ)))))) : Wp lay0 rtOf (Cl lay0 d) k_R_init 0 Q (99, [aO 12 (x0 + 1)], [], σ) :=
  run_intro (Cl_mono lay0 d) [13, 22, 31, 40, 49, 58, 67, 75, 83, 91, 99, 107, 115, 123, 131, 139, 147, 155, 163, 171, 179, 187, 196, 202] 600 h
set_option maxRecDepth 50000 in
theorem bk0_R_init_107 {d : Nat} {σ : St} {Q : Option AV → St → Prop} (x0 : Nat)
    (h : (0 ≤ (8 : Int32).toInt ∧ (8 : Int32).toInt ≤ 40000) ∧ (layC lay0 (x0 + 1) 26 (sN σ) ∧ (Wp lay0 rtOf (Cl lay0 d) k_R_init 0 Q (115, [aO 12 (x0 + 1)], [], (pR (nw σ 17 (ix (8 : Int32))) (x0 + 1) 26 (sN σ)))))) : Wp lay0 rtOf (Cl lay0 d) k_R_init 0 Q (107, [aO 12 (x0 + 1)], [], σ) :=
  run_intro (Cl_mono lay0 d) [13, 22, 31, 40, 49, 58, 67, 75, 83, 91, 99, 107, 115, 123, 131, 139, 147, 155, 163, 171, 179, 187, 196, 202] 600 h
set_option maxRecDepth 50000 in
theorem bk0_R_init_115 {d : Nat} {σ : St} {Q : Option AV → St → Prop} (x0 : Nat)
    (h : (0 ≤ (80 : Int32).toInt ∧ (80 : Int32).toInt ≤ 40000) ∧ (layC lay0 (x0 + 1) 32 (sN σ) ∧ (Wp lay0 rtOf (Cl lay0 d) k_R_init 0 Q (123, [aO 12 (x0 + 1)], [], (pR (nw σ 16 (ix (80 : Int32))) (x0 + 1) 32 (sN σ)))))) : Wp lay0 rtOf (Cl lay0 d) k_R_init 0 Q (115, [aO 12 (x0 + 1)], [], σ) :=
  run_intro (Cl_mono lay0 d) [13, 22, 31, 40, 49, 58, 67, 75, 83, 91, 99, 107, 115, 123, 131, 139, 147, 155, 163, 171, 179, 187, 196, 202] 600 h
set_option maxRecDepth 50000 in
theorem bk0_R_init_123 {d : Nat} {σ : St} {Q : Option AV → St → Prop} (x0 : Nat)
    (h : (0 ≤ (80 : Int32).toInt ∧ (80 : Int32).toInt ≤ 40000) ∧ (layC lay0 (x0 + 1) 33 (sN σ) ∧ (Wp lay0 rtOf (Cl lay0 d) k_R_init 0 Q (131, [aO 12 (x0 + 1)], [], (pR (nw σ 19 (ix (80 : Int32))) (x0 + 1) 33 (sN σ)))))) : Wp lay0 rtOf (Cl lay0 d) k_R_init 0 Q (123, [aO 12 (x0 + 1)], [], σ) :=
  run_intro (Cl_mono lay0 d) [13, 22, 31, 40, 49, 58, 67, 75, 83, 91, 99, 107, 115, 123, 131, 139, 147, 155, 163, 171, 179, 187, 196, 202] 600 h
set_option maxRecDepth 50000 in
theorem bk0_R_init_131 {d : Nat} {σ : St} {Q : Option AV → St → Prop} (x0 : Nat)
    (h : (0 ≤ (80 : Int32).toInt ∧ (80 : Int32).toInt ≤ 40000) ∧ (layC lay0 (x0 + 1) 34 (sN σ) ∧ (Wp lay0 rtOf (Cl lay0 d) k_R_init 0 Q (139, [aO 12 (x0 + 1)], [], (pR (nw σ 19 (ix (80 : Int32))) (x0 + 1) 34 (sN σ)))))) : Wp lay0 rtOf (Cl lay0 d) k_R_init 0 Q (131, [aO 12 (x0 + 1)], [], σ) :=
  run_intro (Cl_mono lay0 d) [13, 22, 31, 40, 49, 58, 67, 75, 83, 91, 99, 107, 115, 123, 131, 139, 147, 155, 163, 171, 179, 187, 196, 202] 600 h
set_option maxRecDepth 50000 in
theorem bk0_R_init_139 {d : Nat} {σ : St} {Q : Option AV → St → Prop} (x0 : Nat)
    (h : (0 ≤ (12 : Int32).toInt ∧ (12 : Int32).toInt ≤ 40000) ∧ (layC lay0 (x0 + 1) 35 (sN σ) ∧ (Wp lay0 rtOf (Cl lay0 d) k_R_init 0 Q (147, [aO 12 (x0 + 1)], [], (pR (nw σ 19 (ix (12 : Int32))) (x0 + 1) 35 (sN σ)))))) : Wp lay0 rtOf (Cl lay0 d) k_R_init 0 Q (139, [aO 12 (x0 + 1)], [], σ) :=
  run_intro (Cl_mono lay0 d) [13, 22, 31, 40, 49, 58, 67, 75, 83, 91, 99, 107, 115, 123, 131, 139, 147, 155, 163, 171, 179, 187, 196, 202] 600 h
set_option maxRecDepth 50000 in
theorem bk0_R_init_147 {d : Nat} {σ : St} {Q : Option AV → St → Prop} (x0 : Nat)
    (h : (0 ≤ (12 : Int32).toInt ∧ (12 : Int32).toInt ≤ 40000) ∧ (layC lay0 (x0 + 1) 36 (sN σ) ∧ (Wp lay0 rtOf (Cl lay0 d) k_R_init 0 Q (155, [aO 12 (x0 + 1)], [], (pR (nw σ 19 (ix (12 : Int32))) (x0 + 1) 36 (sN σ)))))) : Wp lay0 rtOf (Cl lay0 d) k_R_init 0 Q (147, [aO 12 (x0 + 1)], [], σ) :=
  run_intro (Cl_mono lay0 d) [13, 22, 31, 40, 49, 58, 67, 75, 83, 91, 99, 107, 115, 123, 131, 139, 147, 155, 163, 171, 179, 187, 196, 202] 600 h
set_option maxRecDepth 50000 in
theorem bk0_R_init_155 {d : Nat} {σ : St} {Q : Option AV → St → Prop} (x0 : Nat)
    (h : (0 ≤ (8 : Int32).toInt ∧ (8 : Int32).toInt ≤ 40000) ∧ (layC lay0 (x0 + 1) 40 (sN σ) ∧ (Wp lay0 rtOf (Cl lay0 d) k_R_init 0 Q (163, [aO 12 (x0 + 1)], [], (pR (nw σ 19 (ix (8 : Int32))) (x0 + 1) 40 (sN σ)))))) : Wp lay0 rtOf (Cl lay0 d) k_R_init 0 Q (155, [aO 12 (x0 + 1)], [], σ) :=
  run_intro (Cl_mono lay0 d) [13, 22, 31, 40, 49, 58, 67, 75, 83, 91, 99, 107, 115, 123, 131, 139, 147, 155, 163, 171, 179, 187, 196, 202] 600 h
set_option maxRecDepth 50000 in
theorem bk0_R_init_163 {d : Nat} {σ : St} {Q : Option AV → St → Prop} (x0 : Nat)
    (h : (0 ≤ (8 : Int32).toInt ∧ (8 : Int32).toInt ≤ 40000) ∧ (layC lay0 (x0 + 1) 41 (sN σ) ∧ (Wp lay0 rtOf (Cl lay0 d) k_R_init 0 Q (171, [aO 12 (x0 + 1)], [], (pR (nw σ 19 (ix (8 : Int32))) (x0 + 1) 41 (sN σ)))))) : Wp lay0 rtOf (Cl lay0 d) k_R_init 0 Q (163, [aO 12 (x0 + 1)], [], σ) :=
  run_intro (Cl_mono lay0 d) [13, 22, 31, 40, 49, 58, 67, 75, 83, 91, 99, 107, 115, 123, 131, 139, 147, 155, 163, 171, 179, 187, 196, 202] 600 h
set_option maxRecDepth 50000 in
theorem bk0_R_init_171 {d : Nat} {σ : St} {Q : Option AV → St → Prop} (x0 : Nat)
    (h : (0 ≤ (8 : Int32).toInt ∧ (8 : Int32).toInt ≤ 40000) ∧ (layC lay0 (x0 + 1) 43 (sN σ) ∧ (Wp lay0 rtOf (Cl lay0 d) k_R_init 0 Q (179, [aO 12 (x0 + 1)], [], (pR (nw σ 19 (ix (8 : Int32))) (x0 + 1) 43 (sN σ)))))) : Wp lay0 rtOf (Cl lay0 d) k_R_init 0 Q (171, [aO 12 (x0 + 1)], [], σ) :=
  run_intro (Cl_mono lay0 d) [13, 22, 31, 40, 49, 58, 67, 75, 83, 91, 99, 107, 115, 123, 131, 139, 147, 155, 163, 171, 179, 187, 196, 202] 600 h
set_option maxRecDepth 50000 in
theorem bk0_R_init_179 {d : Nat} {σ : St} {Q : Option AV → St → Prop} (x0 : Nat)
    (h : (0 ≤ (80 : Int32).toInt ∧ (80 : Int32).toInt ≤ 40000) ∧ (layC lay0 (x0 + 1) 48 (sN σ) ∧ (Wp lay0 rtOf (Cl lay0 d) k_R_init 0 Q (187, [aO 12 (x0 + 1)], [], (pR (nw σ 16 (ix (80 : Int32))) (x0 + 1) 48 (sN σ)))))) : Wp lay0 rtOf (Cl lay0 d) k_R_init 0 Q (179, [aO 12 (x0 + 1)], [], σ) :=
  run_intro (Cl_mono lay0 d) [13, 22, 31, 40, 49, 58, 67, 75, 83, 91, 99, 107, 115, 123, 131, 139, 147, 155, 163, 171, 179, 187, 196, 202] 600 h
set_option maxRecDepth 50000 in
theorem bk0_R_init_187 {d : Nat} {σ : St} {Q : Option AV → St → Prop} (x0 : Nat)
    (h : (0 ≤ (961 : Int32).toInt ∧ (961 : Int32).toInt ≤ 40000) ∧ (layC lay0 (x0 + 1) 49 (sN σ) ∧ (Wp lay0 rtOf (Cl lay0 d) k_R_init 0 Q (196, [aO 12 (x0 + 1)], [], (pR (nw σ 17 (ix (961 : Int32))) (x0 + 1) 49 (sN σ)))))) : Wp lay0 rtOf (Cl lay0 d) k_R_init 0 Q (187, [aO 12 (x0 + 1)], [], σ) :=
  run_intro (Cl_mono lay0 d) [13, 22, 31, 40, 49, 58, 67, 75, 83, 91, 99, 107, 115, 123, 131, 139, 147, 155, 163, 171, 179, 187, 196, 202] 600 h
set_option maxRecDepth 50000 in
theorem bk0_R_init_196 {d : Nat} {σ : St} {Q : Option AV → St → Prop} (x0 : Nat)
    (h : Wp lay0 rtOf (Cl lay0 d) k_R_init 0 Q (202, [aO 12 (x0 + 1)], [], (pI σ (x0 + 1) 7 (-4 : Int32)))) : Wp lay0 rtOf (Cl lay0 d) k_R_init 0 Q (196, [aO 12 (x0 + 1)], [], σ) :=
  run_intro (Cl_mono lay0 d) [13, 22, 31, 40, 49, 58, 67, 75, 83, 91, 99, 107, 115, 123, 131, 139, 147, 155, 163, 171, 179, 187, 196, 202] 600 h
set_option maxRecDepth 50000 in
theorem bk0_R_init_202 {d : Nat} {σ : St} {Q : Option AV → St → Prop} (u0 : AV)
    (h : Q none σ) : Wp lay0 rtOf (Cl lay0 d) k_R_init 0 Q (202, [u0], [], σ) :=
  run_intro (Cl_mono lay0 d) [13, 22, 31, 40, 49, 58, 67, 75, 83, 91, 99, 107, 115, 123, 131, 139, 147, 155, 163, 171, 179, 187, 196, 202] 600 h
set_option maxRecDepth 50000 in
theorem bk0_Law_law_0 {d : Nat} {σ : St} {Q : Option AV → St → Prop} 
    (h : nn (sN σ) (Cl lay0 d M_C_init [aO 11 (sN σ)] (nw σ 11 (nF 11)) (rV fun σ1 => nn (sN σ1) (Cl lay0 d M_R_init [aO 12 (sN σ1)] (nw σ1 12 (nF 12)) (rV fun σ2 => Wp lay0 rtOf (Cl lay0 d) k_Law_law 2 Q (18, [aO 22 1, aO 11 (sN σ), aO 12 (sN σ1), aI (0 : Int32)], [], σ2)))))) : Wp lay0 rtOf (Cl lay0 d) k_Law_law 2 Q (0, [aO 22 1, aZ, aZ, aZ], [], σ) :=
  run_intro (Cl_mono lay0 d) [18, 627] 600 h
