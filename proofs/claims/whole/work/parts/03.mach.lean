/-! ===== the abstract machine: typed heap by serial numbers, predicate transformer of the bytecode ===== -/
abbrev AV : Type := Unit ⊕ (Int32 ⊕ (Int64 ⊕ (Nat × Nat)))
abbrev aZ : AV := .inl ()
abbrev aI (x : Int32) : AV := .inr (.inl x)
abbrev aJ (x : Int64) : AV := .inr (.inr (.inl x))
abbrev aO (t j : Nat) : AV := .inr (.inr (.inr (t, j)))
/-- next serial, slots used, tags, lengths, ints, longs, references -/
abbrev St : Type := Nat × Nat × (Nat → Nat) × (Nat → Nat) × (Nat → Nat → Int32) × (Nat → Nat → Int64) × (Nat → Nat → Nat)
def sN (σ : St) : Nat := σ.1
def sS (σ : St) : Nat := σ.2.1
def gT (σ : St) (j : Nat) : Nat := σ.2.2.1 j
def gN (σ : St) (j : Nat) : Nat := σ.2.2.2.1 j
def gI (σ : St) (j k : Nat) : Int32 := σ.2.2.2.2.1 j k
def gL (σ : St) (j k : Nat) : Int64 := σ.2.2.2.2.2.1 j k
def gR (σ : St) (j k : Nat) : Nat := σ.2.2.2.2.2.2 j k
def up2 {α : Type} (f : Nat → Nat → α) (j k : Nat) (v : α) : Nat → Nat → α := fun a b => if a = j ∧ b = k then v else f a b
def pI (σ : St) (j k : Nat) (v : Int32) : St := (σ.1, σ.2.1, σ.2.2.1, σ.2.2.2.1, up2 σ.2.2.2.2.1 j k v, σ.2.2.2.2.2.1, σ.2.2.2.2.2.2)
def pL (σ : St) (j k : Nat) (v : Int64) : St := (σ.1, σ.2.1, σ.2.2.1, σ.2.2.2.1, σ.2.2.2.2.1, up2 σ.2.2.2.2.2.1 j k v, σ.2.2.2.2.2.2)
def pR (σ : St) (j k : Nat) (v : Nat) : St := (σ.1, σ.2.1, σ.2.2.1, σ.2.2.2.1, σ.2.2.2.2.1, σ.2.2.2.2.2.1, up2 σ.2.2.2.2.2.2 j k v)
/-- a new cell of tag t with n slots, all 0 -/
def nw (σ : St) (t n : Nat) : St := (σ.1 + 1, σ.2.1 + n, (fun a => if a = σ.1 then t else σ.2.2.1 a), (fun a => if a = σ.1 then n else σ.2.2.2.1 a), (fun a b => if a = σ.1 then 0 else σ.2.2.2.2.1 a b), (fun a b => if a = σ.1 then 0 else σ.2.2.2.2.2.1 a b), (fun a b => if a = σ.1 then 0 else σ.2.2.2.2.2.2 a b))
/-- instruction, next pc, four operands, constants, switch table, places of the words in lw_tbl -/
abbrev En : Type := Instr × Nat × (Nat × Nat × Nat × Nat) × Int32 × Int64 × List (Int32 × Nat) × List Nat
def lk : List (Nat × En) → Nat → Option En
  | [], _ => none
  | q :: r, pc => bif Nat.beq q.1 pc then some q.2 else lk r pc
theorem lk_mem : ∀ {l : List (Nat × En)} {pc : Nat} {e : En}, lk l pc = some e → (pc, e) ∈ l
  | [], _, _, h => by cases h
  | q :: r, pc, e, h => by
    unfold lk at h
    cases hb : Nat.beq q.1 pc with
    | true =>
      rw [hb] at h
      have h1 : q.1 = pc := Nat.eq_of_beq_eq_true hb
      have h2 : q.2 = e := Option.some.inj h
      exact List.mem_cons.mpr (Or.inl (by rw [← h1, ← h2]))
    | false =>
      rw [hb] at h
      exact List.mem_cons.mpr (Or.inr (lk_mem h))
def nthA : List AV → Nat → AV
  | [], _ => aZ
  | v :: _, 0 => v
  | _ :: r, n + 1 => nthA r n
def nthN : List Nat → Nat → Nat
  | [], _ => 0
  | v :: _, 0 => v
  | _ :: r, n + 1 => nthN r n
def nthL : List (List Nat) → Nat → List Nat
  | [], _ => []
  | v :: _, 0 => v
  | _ :: r, n + 1 => nthL r n
/-- the place ahead of a store loses a long -/
def unJ (v : AV) : AV := match v with
  | .inr (.inr (.inl _)) => aZ
  | v => v
def sto : List AV → Nat → AV → List AV
  | [], _, _ => []
  | _ :: r, 0, v => v :: r
  | x :: r, n + 1, v => (bif Nat.beq n 0 then unJ x else x) :: sto r n v
/-- a long takes two places -/
def sto2 (ls : List AV) (i : Nat) (v : AV) : List AV := (sto ls i v).set (i + 1) aZ
def nn (j : Nat) (X : Prop) : Prop := match j with
  | 0 => False
  | _ + 1 => X
theorem nn_of {j : Nat} {X : Prop} (h : j ≠ 0) (hx : X) : nn j X := by
  cases j with
  | zero => exact absurd rfl h
  | succ n => exact hx
theorem nn_to {j : Nat} {X : Prop} (h : nn j X) : j ≠ 0 ∧ X := by
  cases j with
  | zero => exact absurd h id
  | succ n => exact ⟨Nat.succ_ne_zero n, h⟩
theorem nn_mono {j : Nat} {X Y : Prop} (h : X → Y) (hx : nn j X) : nn j Y := nn_of (nn_to hx).1 (h (nn_to hx).2)
def inb (i : Int32) (n : Nat) : Prop := 0 ≤ i.toInt ∧ i.toInt < n
def ix (i : Int32) : Nat := i.toNatClampNeg
/-- a reference field as it is loaded: what the layout says first -/
def ldR (lay : Nat → Nat → Nat) (σ : St) (j k : Nat) : Nat := match lay j k with
  | 0 => gR σ j k
  | m + 1 => m + 1
def layC (lay : Nat → Nat → Nat) (j k v : Nat) : Prop := lay j k = 0 ∨ lay j k = v
abbrev S4 : Type := Nat × List AV × List AV × St
abbrev Act : Type := S4 ⊕ ((Nat × S4) ⊕ ((Nat × Prop × S4) ⊕ ((Prop × S4 × S4) ⊕ ((Int32 × List (Int32 × Nat) × Nat × List AV × List AV) ⊕ ((Nat × Nat × List AV × List AV) ⊕ (Option AV ⊕ (Prop × Option AV)))))))
abbrev a0 (s : S4) : Option Act := some (.inl s)
abbrev a1 (j : Nat) (s : S4) : Option Act := some (.inr (.inl (j, s)))
abbrev a2 (j : Nat) (ob : Prop) (s : S4) : Option Act := some (.inr (.inr (.inl (j, ob, s))))
abbrev a3 (c : Prop) (s t : S4) : Option Act := some (.inr (.inr (.inr (.inl (c, s, t)))))
abbrev a4 (x : Int32) (tb : List (Int32 × Nat)) (d : Nat) (ls st : List AV) : Option Act := some (.inr (.inr (.inr (.inr (.inl (x, tb, d, ls, st))))))
abbrev a5 (j mid : Nat) (args rest : List AV) : Option Act := some (.inr (.inr (.inr (.inr (.inr (.inl (j, mid, args, rest)))))))
abbrev a6 (v : Option AV) : Option Act := some (.inr (.inr (.inr (.inr (.inr (.inr (.inl v)))))))
abbrev a7 (ob : Prop) (v : Option AV) : Option Act := some (.inr (.inr (.inr (.inr (.inr (.inr (.inr (ob, v))))))))
def qI (st : List AV) (f : Int32 → List AV → Option Act) : Option Act := match st with
  | .inr (.inl x) :: r => f x r
  | _ => none
def qJ (st : List AV) (f : Int64 → List AV → Option Act) : Option Act := match st with
  | .inr (.inr (.inl x)) :: r => f x r
  | _ => none
def qO (t : Nat) (st : List AV) (f : Nat → List AV → Option Act) : Option Act := match st with
  | .inr (.inr (.inr (t', j))) :: r => bif Nat.beq t' t then f j r else none
  | _ => none
/-- a reference of any tag -/
def qR (st : List AV) (f : Nat → Nat → List AV → Option Act) : Option Act := match st with
  | .inr (.inr (.inr (t, j))) :: r => f t j r
  | _ => none
/-- nothing else on the stack -/
def endS (r : List AV) (A : Option Act) : Option Act := match r with
  | [] => A
  | _ :: _ => none
def cat (v : AV) : Nat := match v with
  | .inr (.inr (.inl _)) => 2
  | _ => 1
def catS : List AV → Nat
  | [] => 0
  | v :: r => cat v + catS r
/-- the first n of a stack, turned round; and the rest -/
def pops : Nat → List AV → List AV → (List AV → List AV → Option Act) → Option Act
  | 0, acc, st, f => f acc st
  | _ + 1, _, [], _ => none
  | n + 1, acc, v :: st, f => pops n (v :: acc) st f
def ftyL : List (List Nat) := [[3, 3], [0, 20, 21, 1, 0, 0, 0, 0, 0], [3, 24, 6], [4, 4], [11, 7, 7, 7, 7, 4, 4, 4, 4, 4, 4, 25, 25, 0], [0, 4], [14, 13, 20, 20, 0, 6, 0, 3, 0, 0, 0, 0], [1, 4], [24, 0, 25, 20, 20, 20, 0, 0], [24, 0, 0, 0, 1], [22, 0, 0, 0, 0, 3], [10, 12, 8, 5, 0], [20, 0, 0, 0, 0, 3, 0, 0, 0, 23, 20, 20, 0, 20, 23, 23, 1, 0, 0, 0, 20, 23, 23, 0, 20, 20, 21, 3, 3, 0, 0, 0, 20, 23, 23, 23, 23, 3, 3, 1, 23, 23, 0, 23, 0, 0, 0, 0, 20, 21]]
def fty (ci k : Nat) : Nat := nthN (nthL ftyL ci) k
def nF (ci : Nat) : Nat := (nthL ftyL ci).length
/-- what a slot of type ty holds -/
def ldV (lay : Nat → Nat → Nat) (σ : St) (ty j k : Nat) : AV := match ty with
  | 0 => aI (gI σ j k)
  | 1 => aI (gI σ j k)
  | 2 => aI (gI σ j k)
  | 3 => aJ (gL σ j k)
  | t + 4 => aO t (ldR lay σ j k)
def elT (t : Nat) : Nat := match t with
  | 20 => 5
  | 21 => 0
  | _ => 99
def two31 : Int := 2147483648
/-- the parameters' tags of a method: int-like 0, long 3, reference of tag t: t + 4 -/
def okA (ps : List Nat) (args : List AV) : Bool := match ps, args with
  | [], [] => true
  | p :: ps, v :: vs => (match p, v with
    | 0, .inr (.inl _) => true
    | 3, .inr (.inr (.inl _)) => true
    | t + 4, .inr (.inr (.inr (t', _))) => Nat.beq t t'
    | _, _ => false) && okA ps vs
  | _, _ => false
def act (lay : Nat → Nat → Nat) (rt : Nat) (e : En) (ls st : List AV) (σ : St) : Option Act :=
  let nx := e.2.1
  let a := e.2.2.1.1
  let b := e.2.2.1.2.1
  let cc := e.2.2.1.2.2.1
  let dd := e.2.2.1.2.2.2
  let w := e.2.2.2.1
  let z := e.2.2.2.2.1
  match e.1 with
  | .iconst _ => a0 (nx, ls, aI w :: st, σ)
  | .bipush _ => a0 (nx, ls, aI w :: st, σ)
  | .sipush _ => a0 (nx, ls, aI w :: st, σ)
  | .lconst _ => a0 (nx, ls, aJ z :: st, σ)
  | .ldc2_w _ => a0 (nx, ls, aJ z :: st, σ)
  | .aconst_null => a0 (nx, ls, aO a 0 :: st, σ)
  | .iload_n _ => qI [nthA ls a] fun x _ => a0 (nx, ls, aI x :: st, σ)
  | .iload _ => qI [nthA ls a] fun x _ => a0 (nx, ls, aI x :: st, σ)
  | .lload_n _ => qJ [nthA ls a] fun x _ => a0 (nx, ls, aJ x :: st, σ)
  | .lload _ => qJ [nthA ls a] fun x _ => a0 (nx, ls, aJ x :: st, σ)
  | .aload_n _ => qR [nthA ls a] fun t j _ => a0 (nx, ls, aO t j :: st, σ)
  | .aload _ => qR [nthA ls a] fun t j _ => a0 (nx, ls, aO t j :: st, σ)
  | .istore_n _ => qI st fun x st => a0 (nx, sto ls a (aI x), st, σ)
  | .istore _ => qI st fun x st => a0 (nx, sto ls a (aI x), st, σ)
  | .lstore_n _ => qJ st fun x st => a0 (nx, sto2 ls a (aJ x), st, σ)
  | .lstore _ => qJ st fun x st => a0 (nx, sto2 ls a (aJ x), st, σ)
  | .astore_n _ => qR st fun t j st => a0 (nx, sto ls a (aO t j), st, σ)
  | .astore _ => qR st fun t j st => a0 (nx, sto ls a (aO t j), st, σ)
  | .iinc _ _ => qI [nthA ls a] fun x _ => a0 (nx, sto ls a (aI (x + w)), st, σ)
  | .iadd => qI st fun y st => qI st fun x st => a0 (nx, ls, aI (x + y) :: st, σ)
  | .isub => qI st fun y st => qI st fun x st => a0 (nx, ls, aI (x - y) :: st, σ)
  | .imul => qI st fun y st => qI st fun x st => a0 (nx, ls, aI (x * y) :: st, σ)
  | .iand => qI st fun y st => qI st fun x st => a0 (nx, ls, aI (x &&& y) :: st, σ)
  | .ixor => qI st fun y st => qI st fun x st => a0 (nx, ls, aI (x ^^^ y) :: st, σ)
  | .idiv => qI st fun y st => qI st fun x st => a2 1 (¬ y = 0) (nx, ls, aI (x / y) :: st, σ)
  | .irem => qI st fun y st => qI st fun x st => a2 1 (¬ y = 0) (nx, ls, aI (x - x / y * y) :: st, σ)
  | .ladd => qJ st fun y st => qJ st fun x st => a0 (nx, ls, aJ (x + y) :: st, σ)
  | .lsub => qJ st fun y st => qJ st fun x st => a0 (nx, ls, aJ (x - y) :: st, σ)
  | .lmul => qJ st fun y st => qJ st fun x st => a0 (nx, ls, aJ (x * y) :: st, σ)
  | .land => qJ st fun y st => qJ st fun x st => a0 (nx, ls, aJ (x &&& y) :: st, σ)
  | .lor => qJ st fun y st => qJ st fun x st => a0 (nx, ls, aJ (x ||| y) :: st, σ)
  | .ldiv => qJ st fun y st => qJ st fun x st => a2 1 (¬ y = 0) (nx, ls, aJ (x / y) :: st, σ)
  | .lrem => qJ st fun y st => qJ st fun x st => a2 1 (¬ y = 0) (nx, ls, aJ (x - x / y * y) :: st, σ)
  | .lneg => qJ st fun x st => a0 (nx, ls, aJ (-x) :: st, σ)
  | .lshl => qI st fun y st => qJ st fun x st => a0 (nx, ls, aJ (x <<< (y.toInt64 &&& 63)) :: st, σ)
  | .lshr => qI st fun y st => qJ st fun x st => a0 (nx, ls, aJ (x >>> (y.toInt64 &&& 63)) :: st, σ)
  | .lushr => qI st fun y st => qJ st fun x st => a0 (nx, ls, aJ ((x.toUInt64 >>> (y.toInt64.toUInt64 &&& Int64.toUInt64 63)).toInt64) :: st, σ)
  | .i2l => qI st fun x st => a0 (nx, ls, aJ x.toInt64 :: st, σ)
  | .l2i => qJ st fun x st => a0 (nx, ls, aI x.toInt32 :: st, σ)
  | .i2b => qI st fun x st => a0 (nx, ls, aI x.toInt8.toInt32 :: st, σ)
  | .lcmp => qJ st fun y st => qJ st fun x st => a0 (nx, ls, aI (lg_cmp x y) :: st, σ)
  | .dup => (match st with
    | v :: r => bif Nat.beq (cat v) 1 then a0 (nx, ls, v :: v :: r, σ) else none
    | _ => none)
  | .pop => (match st with
    | v :: r => bif Nat.beq (cat v) 1 then a0 (nx, ls, r, σ) else none
    | _ => none)
  | .goto _ => a0 (a, ls, st, σ)
  | .ifCond .eq _ => qI st fun x st => a3 (x = 0) (a, ls, st, σ) (nx, ls, st, σ)
  | .ifCond .ne _ => qI st fun x st => a3 (x = 0) (nx, ls, st, σ) (a, ls, st, σ)
  | .ifCond .lt _ => qI st fun x st => a3 (x < 0) (a, ls, st, σ) (nx, ls, st, σ)
  | .ifCond .ge _ => qI st fun x st => a3 (0 ≤ x) (a, ls, st, σ) (nx, ls, st, σ)
  | .ifCond .gt _ => qI st fun x st => a3 (0 < x) (a, ls, st, σ) (nx, ls, st, σ)
  | .ifCond .le _ => qI st fun x st => a3 (x ≤ 0) (a, ls, st, σ) (nx, ls, st, σ)
  | .if_icmp .eq _ => qI st fun y st => qI st fun x st => a3 (x = y) (a, ls, st, σ) (nx, ls, st, σ)
  | .if_icmp .ne _ => qI st fun y st => qI st fun x st => a3 (x = y) (nx, ls, st, σ) (a, ls, st, σ)
  | .if_icmp .lt _ => qI st fun y st => qI st fun x st => a3 (x < y) (a, ls, st, σ) (nx, ls, st, σ)
  | .if_icmp .ge _ => qI st fun y st => qI st fun x st => a3 (y ≤ x) (a, ls, st, σ) (nx, ls, st, σ)
  | .if_icmp .gt _ => qI st fun y st => qI st fun x st => a3 (y < x) (a, ls, st, σ) (nx, ls, st, σ)
  | .if_icmp .le _ => qI st fun y st => qI st fun x st => a3 (x ≤ y) (a, ls, st, σ) (nx, ls, st, σ)
  | .ifnull _ => qR st fun _ j st => a3 (j = 0) (a, ls, st, σ) (nx, ls, st, σ)
  | .ifnonnull _ => qR st fun _ j st => a3 (j = 0) (nx, ls, st, σ) (a, ls, st, σ)
  | .tableswitch _ _ _ _ => qI st fun x st => a4 x e.2.2.2.2.2.1 a ls st
  | .getfield _ => qO a st fun j st => a1 j (nx, ls, ldV lay σ (fty a b) j b :: st, σ)
  | .putfield _ => (match fty a b with
    | 0 => qI st fun x st => qO a st fun j st => a1 j (nx, ls, st, pI σ j b x)
    | 1 => qI st fun x st => qO a st fun j st => a2 j (x = 0 ∨ x = 1) (nx, ls, st, pI σ j b x)
    | 2 => none
    | 3 => qJ st fun x st => qO a st fun j st => a1 j (nx, ls, st, pL σ j b x)
    | t + 4 => qO t st fun v st => qO a st fun j st => a2 j (layC lay j b v) (nx, ls, st, pR σ j b v))
  | .getstatic _ => a0 (nx, ls, aO 22 2 :: st, σ)
  | .iaload => qI st fun i st => qR st fun t j st => (match t with
    | 16 => a2 j (inb i (gN σ j)) (nx, ls, aI (gI σ j (ix i)) :: st, σ)
    | 22 => a2 j (inb i (gN σ j)) (nx, ls, aI (gI σ j (ix i)) :: st, σ)
    | _ => none)
  | .laload => qI st fun i st => qO 19 st fun j st => a2 j (inb i (gN σ j)) (nx, ls, aJ (gL σ j (ix i)) :: st, σ)
  | .baload => qI st fun i st => qR st fun t j st => (match t with
    | 17 => a2 j (inb i (gN σ j)) (nx, ls, aI (gI σ j (ix i)) :: st, σ)
    | 18 => a2 j (inb i (gN σ j)) (nx, ls, aI (gI σ j (ix i)) :: st, σ)
    | _ => none)
  | .aaload => qI st fun i st => qR st fun t j st => (match t with
    | 20 => a2 j (inb i (gN σ j)) (nx, ls, aO 5 (gR σ j (ix i)) :: st, σ)
    | 21 => a2 j (inb i (gN σ j)) (nx, ls, aO 0 (gR σ j (ix i)) :: st, σ)
    | _ => none)
  | .iastore => qI st fun x st => qI st fun i st => qO 16 st fun j st => a2 j (inb i (gN σ j)) (nx, ls, st, pI σ j (ix i) x)
  | .lastore => qJ st fun x st => qI st fun i st => qO 19 st fun j st => a2 j (inb i (gN σ j)) (nx, ls, st, pL σ j (ix i) x)
  | .bastore => qI st fun x st => qI st fun i st => qR st fun t j st => (match t with
    | 17 => a2 j (inb i (gN σ j)) (nx, ls, st, pI σ j (ix i) (vp_nar .boolean x))
    | 18 => a2 j (inb i (gN σ j)) (nx, ls, st, pI σ j (ix i) (vp_nar .byte x))
    | _ => none)
  | .aastore => qR st fun tv v st => qI st fun i st => qR st fun t j st => bif Nat.ble 20 t && Nat.ble t 21 && Nat.beq (elT t) tv then a2 j (inb i (gN σ j) ∧ layC lay j (ix i) v) (nx, ls, st, pR σ j (ix i) v) else none
  | .arraylength => qR st fun t j st => bif Nat.ble 16 t then a1 j (nx, ls, aI (Int32.ofNat (gN σ j)) :: st, σ) else none
  | .newarray _ => qI st fun n st => a2 1 (0 ≤ n.toInt ∧ n.toInt ≤ 40000) (nx, ls, aO a (sN σ) :: st, nw σ a (ix n))
  | .anewarray _ => qI st fun n st => a2 1 (0 ≤ n.toInt ∧ n.toInt ≤ 40000) (nx, ls, aO a (sN σ) :: st, nw σ a (ix n))
  | .new _ => a0 (nx, ls, aO a (sN σ) :: st, nw σ a (nF a))
  | .invokevirtual _ => pops b [] st fun args st => (match args with
    | .inr (.inr (.inr (t, j))) :: _ => bif Nat.beq t dd && Nat.ble (catS st) 8 then a5 j a args st else none
    | _ => none)
  | .invokestatic _ => pops b [] st fun args st => bif Nat.ble (catS st) 8 then a5 1 a args st else none
  | .invokespecial _ => (match cc with
    | 6 => qR st fun _ j st => bif Nat.ble (catS st) 8 then a1 j (nx, ls, st, σ) else none
    | _ => pops b [] st fun args st => (match args with
      | .inr (.inr (.inr (t, j))) :: _ => bif Nat.beq t dd && Nat.ble (catS st) 8 then a5 j a args st else none
      | _ => none))
  | .ireturn => qI st fun x r => endS r (match rt with
    | 1 => a6 (some (aI x))
    | 2 => a7 (x = 0 ∨ x = 1) (some (aI x))
    | _ => none)
  | .lreturn => qJ st fun x r => endS r (match rt with
    | 3 => a6 (some (aJ x))
    | _ => none)
  | .areturn => qR st fun t j r => endS r (match rt with
    | 0 => none
    | 1 => none
    | 2 => none
    | 3 => none
    | t' + 4 => bif Nat.beq t' t then a6 (some (aO t j)) else none)
  | .return_ => endS st (match rt with
    | 0 => a6 none
    | _ => none)
  | _ => none
def rV (K : St → Prop) (v : Option AV) (σ : St) : Prop := match v with
  | none => K σ
  | _ => False
def rI (K : Int32 → St → Prop) (v : Option AV) (σ : St) : Prop := match v with
  | some (.inr (.inl r)) => K r σ
  | _ => False
def rJ (K : Int64 → St → Prop) (v : Option AV) (σ : St) : Prop := match v with
  | some (.inr (.inr (.inl r))) => K r σ
  | _ => False
def rO (t : Nat) (K : Nat → St → Prop) (v : Option AV) (σ : St) : Prop := match v with
  | some (.inr (.inr (.inr (t', j)))) => t' = t ∧ K j σ
  | _ => False
def ctn (rt nx : Nat) (ls rest : List AV) (K : S4 → Prop) : Option AV → St → Prop := match rt with
  | 0 => rV fun σ => K (nx, ls, rest, σ)
  | 1 => rI fun r σ => K (nx, ls, aI r :: rest, σ)
  | 2 => rI fun r σ => K (nx, ls, aI r :: rest, σ)
  | 3 => rJ fun r σ => K (nx, ls, aJ r :: rest, σ)
  | t + 4 => rO t fun j σ => K (nx, ls, aO t j :: rest, σ)
def swt (K : Nat → Prop) (x : Int32) (d : Nat) : List (Int32 × Nat) → Prop
  | [] => K d
  | q :: r => (x = q.1 → K q.2) ∧ (¬ x = q.1 → swt K x d r)
abbrev CLT : Type := Nat → List AV → St → (Option AV → St → Prop) → Prop
def stepP (rtm : Nat → Nat) (cl : CLT) (Q : Option AV → St → Prop) (K : S4 → Prop) (nx : Nat) (ls : List AV) (σ : St) (A : Act) : Prop := match A with
  | .inl s => K s
  | .inr (.inl (j, s)) => nn j (K s)
  | .inr (.inr (.inl (j, ob, s))) => nn j (ob ∧ K s)
  | .inr (.inr (.inr (.inl (c, s, t)))) => (c → K s) ∧ (¬ c → K t)
  | .inr (.inr (.inr (.inr (.inl (x, tb, d, ls, st))))) => swt (fun pc => K (pc, ls, st, σ)) x d tb
  | .inr (.inr (.inr (.inr (.inr (.inl (j, mid, args, rest)))))) => nn j (cl mid args σ (ctn (rtm mid) nx ls rest K))
  | .inr (.inr (.inr (.inr (.inr (.inr (.inl v)))))) => Q v σ
  | .inr (.inr (.inr (.inr (.inr (.inr (.inr (ob, v))))))) => ob ∧ Q v σ
def stepS (lay : Nat → Nat → Nat) (rtm : Nat → Nat) (cl : CLT) (cd : List (Nat × En)) (rt : Nat) (Q : Option AV → St → Prop) (K : S4 → Prop) (s : S4) : Prop := match lk cd s.1 with
  | none => False
  | some e => match act lay rt e s.2.1 s.2.2.1 s.2.2.2 with
    | none => False
    | some A => stepP rtm cl Q K e.2.1 s.2.1 s.2.2.2 A
/-- the least predicate that is closed: the machine from s comes to a return with Q -/
def Wp (lay : Nat → Nat → Nat) (rtm : Nat → Nat) (cl : CLT) (cd : List (Nat × En)) (rt : Nat) (Q : Option AV → St → Prop) (s : S4) : Prop :=
  ∀ P : S4 → Prop, (∀ s, stepS lay rtm cl cd rt Q P s → P s) → P s
def mem (a : Nat) : List Nat → Bool
  | [] => false
  | b :: r => bif Nat.beq a b then true else mem a r
def run (lay : Nat → Nat → Nat) (rtm : Nat → Nat) (cl : CLT) (cd : List (Nat × En)) (rt : Nat) (Q : Option AV → St → Prop) (stops : List Nat) (P : S4 → Prop) : Nat → S4 → Prop
  | 0, s => P s
  | k + 1, s => stepS lay rtm cl cd rt Q (fun s' => bif mem s'.1 stops then P s' else run lay rtm cl cd rt Q stops P k s') s
def Mono (cl : CLT) : Prop := ∀ (mid : Nat) (args : List AV) (σ : St) (Q Q' : Option AV → St → Prop), (∀ v τ, Q v τ → Q' v τ) → cl mid args σ Q → cl mid args σ Q'
theorem swt_mono {K K' : Nat → Prop} (h : ∀ p, K p → K' p) {x : Int32} {d : Nat} : ∀ {tb : List (Int32 × Nat)}, swt K x d tb → swt K' x d tb
  | [], hk => h _ hk
  | _ :: _, hk => ⟨fun e => h _ (hk.1 e), fun e => swt_mono h (hk.2 e)⟩
theorem ctn_mono {rt nx : Nat} {ls rest : List AV} {K K' : S4 → Prop} (h : ∀ s, K s → K' s) (v : Option AV) (τ : St) (hk : ctn rt nx ls rest K v τ) : ctn rt nx ls rest K' v τ := by
  match rt, hk with
  | 0, hk => match v, hk with
    | none, hk => exact h _ hk
  | 1, hk => match v, hk with
    | some (.inr (.inl r)), hk => exact h _ hk
  | 2, hk => match v, hk with
    | some (.inr (.inl r)), hk => exact h _ hk
  | 3, hk => match v, hk with
    | some (.inr (.inr (.inl r))), hk => exact h _ hk
  | t + 4, hk => match v, hk with
    | some (.inr (.inr (.inr (t', j)))), hk => exact ⟨hk.1, h _ hk.2⟩
theorem stepP_mono {rtm : Nat → Nat} {cl : CLT} (hm : Mono cl) {Q Q' : Option AV → St → Prop} {K K' : S4 → Prop} (hQ : ∀ v τ, Q v τ → Q' v τ) (h : ∀ s, K s → K' s) {nx : Nat} {ls : List AV} {σ : St} {A : Act} (hk : stepP rtm cl Q K nx ls σ A) : stepP rtm cl Q' K' nx ls σ A := by
  match A, hk with
  | .inl s, hk => exact h _ hk
  | .inr (.inl (j, s)), hk => exact nn_mono (h _) hk
  | .inr (.inr (.inl (j, ob, s))), hk => exact nn_mono (fun q => ⟨q.1, h _ q.2⟩) hk
  | .inr (.inr (.inr (.inl (c, s, t)))), hk => exact ⟨fun q => h _ (hk.1 q), fun q => h _ (hk.2 q)⟩
  | .inr (.inr (.inr (.inr (.inl (x, tb, d, ls, st))))), hk => exact swt_mono (fun p => h _) hk
  | .inr (.inr (.inr (.inr (.inr (.inl (j, mid, args, rest)))))), hk => exact nn_mono (hm _ _ _ _ _ (fun v τ => ctn_mono h v τ)) hk
  | .inr (.inr (.inr (.inr (.inr (.inr (.inl v)))))), hk => exact hQ _ _ hk
  | .inr (.inr (.inr (.inr (.inr (.inr (.inr (ob, v))))))), hk => exact ⟨hk.1, hQ _ _ hk.2⟩
theorem stepS_mono {lay : Nat → Nat → Nat} {rtm : Nat → Nat} {cl : CLT} (hm : Mono cl) {cd : List (Nat × En)} {rt : Nat} {Q Q' : Option AV → St → Prop} {K K' : S4 → Prop} (hQ : ∀ v τ, Q v τ → Q' v τ) (h : ∀ s, K s → K' s) {s : S4} (hk : stepS lay rtm cl cd rt Q K s) : stepS lay rtm cl cd rt Q' K' s := by
  unfold stepS at hk ⊢
  cases h1 : lk cd s.1 with
  | none => rw [h1] at hk; exact hk
  | some e =>
    rw [h1] at hk
    dsimp only at hk ⊢
    cases h2 : act lay rt e s.2.1 s.2.2.1 s.2.2.2 with
    | none => rw [h2] at hk; exact hk
    | some A => rw [h2] at hk; exact stepP_mono hm hQ h hk
theorem Wp.fold {lay : Nat → Nat → Nat} {rtm : Nat → Nat} {cl : CLT} (hm : Mono cl) {cd : List (Nat × En)} {rt : Nat} {Q : Option AV → St → Prop} {s : S4} (h : stepS lay rtm cl cd rt Q (Wp lay rtm cl cd rt Q) s) : Wp lay rtm cl cd rt Q s := by
  intro P hP
  exact hP s (stepS_mono hm (fun _ _ q => q) (fun s' h' => h' P hP) h)
theorem Wp.mono {lay : Nat → Nat → Nat} {rtm : Nat → Nat} {cl : CLT} (hm : Mono cl) {cd : List (Nat × En)} {rt : Nat} {Q Q' : Option AV → St → Prop} (hQ : ∀ v τ, Q v τ → Q' v τ) {s : S4} (h : Wp lay rtm cl cd rt Q s) : Wp lay rtm cl cd rt Q' s := by
  intro P hP
  exact h P (fun s' h' => hP s' (stepS_mono hm hQ (fun _ q => q) h'))
theorem run_to {lay : Nat → Nat → Nat} {rtm : Nat → Nat} {cl : CLT} (hm : Mono cl) {cd : List (Nat × En)} {rt : Nat} {Q : Option AV → St → Prop} {stops : List Nat} {P : S4 → Prop} (hP : ∀ s, stepS lay rtm cl cd rt Q P s → P s) : ∀ (k : Nat) (s : S4), run lay rtm cl cd rt Q stops P k s → P s
  | 0, _, h => h
  | k + 1, s, h => hP s (stepS_mono hm (fun _ _ q => q) (fun s' h' => by
      cases hb : mem s'.1 stops with
      | true => rw [hb] at h'; exact h'
      | false => rw [hb] at h'; exact run_to hm hP k s' h') h)
theorem run_intro {lay : Nat → Nat → Nat} {rtm : Nat → Nat} {cl : CLT} (hm : Mono cl) {cd : List (Nat × En)} {rt : Nat} {Q : Option AV → St → Prop} (stops : List Nat) (k : Nat) {s : S4} (h : run lay rtm cl cd rt Q stops (Wp lay rtm cl cd rt Q) k s) : Wp lay rtm cl cd rt Q s := run_to hm (fun _ q => Wp.fold hm q) k s h
/-- the locals with which a method begins -/
def ent0 : Nat → List AV → List AV
  | n, [] => List.replicate n aZ
  | n, v :: vs => bif Nat.beq (cat v) 2 then v :: aZ :: ent0 (n - 2) vs else v :: ent0 (n - 1) vs
