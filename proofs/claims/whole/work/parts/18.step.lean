/-! ===== switches, returns, the step, the contracts of all methods ===== -/
def swF (x : Int32) (d : Nat) : List (Int32 × Nat) → Nat
  | [] => d
  | q :: r => if x = q.1 then q.2 else swF x d r
theorem swt_F {K : Nat → Prop} {x : Int32} {d : Nat} : ∀ {tb : List (Int32 × Nat)}, swt K x d tb → K (swF x d tb)
  | [], h => h
  | q :: r, h => by
    unfold swF
    by_cases e : x = q.1
    · rw [if_pos e]; exact h.1 e
    · rw [if_neg e]; exact swt_F (h.2 e)
theorem ofInt_toInt {n : Int} (h0 : 0 ≤ n) (h1 : n < 2000) : (Int32.ofInt n).toInt = n := Int32.toInt_ofInt_of_le (by omega) (by omega)
theorem swF_in {x : Int32} {d : Nat} : ∀ (tb : List (Int32 × Nat)) (lo : Int), (∀ (i : Nat) (k : Int32), (tb.map (fun q => q.1))[i]? = some k → k = Int32.ofInt (lo + i)) → 0 ≤ lo → lo + tb.length < 2000 → lo ≤ x.toInt → x.toInt < lo + tb.length → (tb.map (fun q => q.2))[(x.toInt - lo).toNat]? = some (swF x d tb)
  | [], lo, _, _, _, h1, h2 => by simp at h2; omega
  | q :: r, lo, hk, h0, hl, h1, h2 => by
    have hq : q.1 = Int32.ofInt lo := by
      have := hk 0 q.1 (by simp)
      simpa using this
    simp only [List.length_cons] at hl h2
    unfold swF
    by_cases e : x = q.1
    · rw [if_pos e]
      have : x.toInt = lo := by rw [e, hq]; exact ofInt_toInt h0 (by omega)
      rw [this, show (lo - lo).toNat = 0 by omega]
      simp
    · rw [if_neg e]
      have hne : x.toInt ≠ lo := fun z => e (by
        rw [hq]
        apply Int32.toInt_inj.mp
        rw [ofInt_toInt h0 (by omega)]
        exact z)
      have ih := swF_in (x := x) (d := d) r (lo + 1) (fun i k h => by
        have := hk (i + 1) k (by simpa using h)
        rw [this]
        congr 1
        push_cast
        omega) (by omega) (by omega) (by omega) (by omega)
      rw [show (x.toInt - lo).toNat = (x.toInt - (lo + 1)).toNat + 1 by omega]
      simpa using ih
theorem swF_out {x : Int32} {d : Nat} : ∀ (tb : List (Int32 × Nat)) (lo : Int), (∀ (i : Nat) (k : Int32), (tb.map (fun q => q.1))[i]? = some k → k = Int32.ofInt (lo + i)) → 0 ≤ lo → lo + tb.length < 2000 → (x.toInt < lo ∨ lo + tb.length ≤ x.toInt) → swF x d tb = d
  | [], _, _, _, _, _ => rfl
  | q :: r, lo, hk, h0, hl, h => by
    have hq : q.1 = Int32.ofInt lo := by
      have := hk 0 q.1 (by simp)
      simpa using this
    simp only [List.length_cons] at hl h
    unfold swF
    have hne : ¬ x = q.1 := fun z => by
      have : x.toInt = lo := by rw [z, hq]; exact ofInt_toInt h0 (by omega)
      omega
    rw [if_neg hne]
    exact swF_out r (lo + 1) (fun i k h => by
      have := hk (i + 1) k (by simpa using h)
      rw [this]
      congr 1
      push_cast
      omega) (by omega) (by omega) (by omega)
theorem endS_some {r : List AV} {x : Option Act} {A : Act} (h : endS r x = some A) : r = [] ∧ x = some A := by
  cases r
  · exact ⟨rfl, h⟩
  · cases h
def noL (e : En) : Bool := match e.1 with
  | .invokevirtual _ => decide (e.2.2.1.1 ≠ 172)
  | .invokestatic _ => decide (e.2.2.1.1 ≠ 172)
  | .invokespecial _ => decide (e.2.2.1.1 ≠ 172)
  | _ => true
theorem noLaw : (List.range 173).all (fun m => (cdOf m).all (fun q => noL q.2)) = true := by decide +kernel
section STEP
variable {p : Program} {l : Launch} {e : Env} {R : Room} {s : State} {m : MethodId} {args : Array Value} {below : List Frame} {meth : Method} {c : Code} {Qm : State → Prop} {lay : Nat → Nat → Nat} {L0 : Nat} {X : Cx} {mid n0 s0 NT ST d rt : Nat} {Q : Option AV → St → Prop} {K : S4 → Prop} {cl : CLT}
variable {pc nx a b k dd : Nat} {w : Int32} {z : Int64} {tb : List (Int32 × Nat)} {ps : List Nat} {ls st : List AV} {σ : St} {A : Act}
theorem si_tableswitch (F : FX p s m meth c X mid) (hKS : ∀ q, K q → BS p l e R s m args below meth c Qm lay L0 X mid n0 s0 NT ST q) {df lo hi : Int} {offs : Array Int} {len : Nat} (hd : decode (byOf mid) pc = .ok (.tableswitch df lo hi offs, len)) (hg : goodI (yOf mid).cls (iniOf mid) pc (.tableswitch df lo hi offs, nx, (a, b, k, dd), w, z, tb, ps) = true) (hA : act lay rt (.tableswitch df lo hi offs, nx, (a, b, k, dd), w, z, tb, ps) ls st σ = some A) (h : stepP rtOf cl Q K nx ls σ A) : BS p l e R s m args below meth c Qm lay L0 X mid n0 s0 NT ST (pc, ls, st, σ) := by
  obtain ⟨x, st, rfl, hA⟩ := qI_some hA
  cases hA
  have h : swt (fun pc => K (pc, ls, st, σ)) x a tb := h
  have h := swt_F h
  obtain ⟨hB, hS⟩ := hKS _ h
  obtain ⟨g1, g234⟩ := Bool.and_eq_true_iff.mp hg
  obtain ⟨g23, g4⟩ := Bool.and_eq_true_iff.mp g234
  obtain ⟨g2, g3⟩ := Bool.and_eq_true_iff.mp g23
  have g1 : (pc : Int) + df = (a : Int) := of_decide_eq_true g1
  have g2 : 0 ≤ lo ∧ lo ≤ hi ∧ hi < 1000 := of_decide_eq_true g2
  have g3 : tb.length = offs.size ∧ (offs.size : Int) = hi - lo + 1 := of_decide_eq_true g3
  have g4 := List.all_eq_true.mp g4
  have hkeys : ∀ (i : Nat) (k : Int32), (tb.map (fun q => q.1))[i]? = some k → k = Int32.ofInt (lo + i) := by
    intro i k hk
    have hi : i < tb.length := by
      have := (List.getElem?_eq_some_iff.mp hk).1
      simpa using this
    have := g4 i (List.mem_range.mpr (by omega))
    obtain ⟨q1, -⟩ := Bool.and_eq_true_iff.mp this
    have q1 : (tb.map (fun q => q.1))[i]? = some (Int32.ofInt (lo + i)) := of_decide_eq_true q1
    rw [hk] at q1
    exact Option.some.inj q1
  refine ⟨hB, fun n1 n2 H locs L hH hVS hL hv1 hv2 => ?_⟩
  have hk2 := hS n1 n2 H locs L hH hVS hL hv1 (vt hv2)
  by_cases hin : lo ≤ x.toInt ∧ x.toInt ≤ hi
  · have hF := swF_in (x := x) (d := a) tb lo hkeys g2.1 (by omega) hin.1 (by omega)
    have hi2 : (x.toInt - lo).toNat < offs.size := by omega
    obtain ⟨-, q2⟩ := Bool.and_eq_true_iff.mp (g4 _ (List.mem_range.mpr hi2))
    have q2 : Option.map (fun (t : Int) => t) ((tb.map (fun q => (q.2 : Int)))[(x.toInt - lo).toNat]?) = (offs[(x.toInt - lo).toNat]?).map (fun o => (pc : Int) + o) := of_decide_eq_true q2
    have hF2 : (tb.map (fun q => (q.2 : Int)))[(x.toInt - lo).toNat]? = some (swF x a tb : Int) := by
      rw [List.getElem?_map] at hF ⊢
      cases hq : tb[(x.toInt - lo).toNat]? with
      | none => rw [hq] at hF; cases hF
      | some q =>
        rw [hq] at hF
        have := Option.some.inj hF
        rw [← this]
        rfl
    rw [hF2] at q2
    cases ho : offs[(x.toInt - lo).toNat]? with
    | none => rw [ho] at q2; cases q2
    | some off =>
      rw [ho] at q2
      have q2 : (swF x a tb : Int) = (pc : Int) + off := Option.some.inj q2
      exact lv_tableIn F.1 F.2.1 hd (by omega) (by omega) ho q2.symm hk2
  · have hF : swF x a tb = a := swF_out tb lo hkeys g2.1 (by omega) (by omega)
    have hk2 : W p l e R s m args below meth c H locs (sN σ - n0) (sS σ - s0) Qm (F0 m (swF x a tb) L (st.map (cvV X))) := hk2
    rw [hF] at hk2
    exact lv_tableOut F.1 F.2.1 hd (by omega) g1 hk2
set_option maxHeartbeats 4000000 in
/-- one step of the abstract machine is sound, returns apart -/
theorem sim_step (F : FX p s m meth c X mid) (hmid : mid < 173) (hsz : X.1 ≤ s.heap.size) (hz0 : LZ lay L0) (hR : d + 1 ≤ R.frames ∧ 39 * (d + 1) ≤ R.locals) (hRc : NT - n0 ≤ R.cells ∧ ST - s0 ≤ R.slots) (hCS : CS l lay L0 X d) (hKS : ∀ q, K q → BS p l e R s m args below meth c Qm lay L0 X mid n0 s0 NT ST q)
    (hret : ∀ (ins : Instr) (pc nx a b k dd : Nat) (w : Int32) (z : Int64) (tb : List (Int32 × Nat)) (ps : List Nat) (ls st : List AV) (σ : St) (A : Act), (ins = .ireturn ∨ ins = .lreturn ∨ ins = .areturn ∨ ins = .return_) → decode (byOf mid) pc = .ok (ins, 1) → act lay (rtOf mid) (ins, nx, (a, b, k, dd), w, z, tb, ps) ls st σ = some A → stepP rtOf (Cl lay d) Q K nx ls σ A → BS p l e R s m args below meth c Qm lay L0 X mid n0 s0 NT ST (pc, ls, st, σ))
    {q : S4} (h : stepS lay rtOf (Cl lay d) (cdOf mid) (rtOf mid) Q K q) : BS p l e R s m args below meth c Qm lay L0 X mid n0 s0 NT ST q := by
  obtain ⟨pc, ls, st, σ⟩ := q
  unfold stepS at h
  dsimp only at h
  cases hlk : lk (cdOf mid) pc with
  | none => rw [hlk] at h; exact absurd h id
  | some en =>
  rw [hlk] at h
  dsimp only at h
  have hmem := lk_mem hlk
  have hg := gm_all mid hmid _ hmem
  have hso := List.all_eq_true.mp (List.all_eq_true.mp stOK_ok mid (List.mem_range.mpr hmid)) _ hmem
  cases hact : act lay (rtOf mid) en ls st σ with
  | none => rw [hact] at h; exact absurd h id
  | some A =>
  rw [hact] at h
  dsimp only at h
  obtain ⟨ins, nx, ⟨a, b, k, dd⟩, w, z, tb, ps⟩ := en
  unfold goodB at hg
  obtain ⟨hd0, hg2⟩ := Bool.and_eq_true_iff.mp hg
  obtain ⟨hnx0, hgi⟩ := Bool.and_eq_true_iff.mp hg2
  have hd : decode (byOf mid) pc = .ok (ins, lenI ins (nx - pc)) := of_decide_eq_true hd0
  have hnx : nx = pc + lenI ins (nx - pc) := of_decide_eq_true hnx0
  have hlaw : ∀ (i : Instr), (∃ n, i = .invokevirtual n ∨ i = .invokestatic n ∨ i = .invokespecial n) → ins = i → a ≠ 172 := by
    intro i hi he
    have := List.all_eq_true.mp (List.all_eq_true.mp noLaw mid (List.mem_range.mpr hmid)) _ hmem
    subst he
    obtain ⟨n, rfl | rfl | rfl⟩ := hi
    · exact of_decide_eq_true this
    · exact of_decide_eq_true this
    · exact of_decide_eq_true this
  clear hlk hmem hg hg2 hd0 hnx0
  cases ins
  case iconst n =>
    replace hnx : nx = pc + 1 := hnx
    subst hnx
    exact si_iconst F hKS hd (of_decide_eq_true hgi) hact h
  case bipush n =>
    replace hnx : nx = pc + 2 := hnx
    subst hnx
    exact si_bipush F hKS hd (of_decide_eq_true hgi) hact h
  case sipush n =>
    replace hnx : nx = pc + 3 := hnx
    subst hnx
    exact si_sipush F hKS hd (of_decide_eq_true hgi) hact h
  case lconst n =>
    replace hnx : nx = pc + 1 := hnx
    subst hnx
    exact si_lconst F hKS hd (of_decide_eq_true hgi) hact h
  case ldc2_w n =>
    replace hnx : nx = pc + 3 := hnx
    subst hnx
    exact si_ldc2 F hKS hd hgi hact h
  case aconst_null =>
    replace hnx : nx = pc + 1 := hnx
    subst hnx
    exact si_aconst F hKS hd hact h
  case iload_n n =>
    replace hnx : nx = pc + 1 := hnx
    subst hnx
    exact si_iload_n F hKS hd (of_decide_eq_true hgi) hact h
  case iload n =>
    replace hnx : nx = pc + 2 := hnx
    subst hnx
    exact si_iload F hKS hd (of_decide_eq_true hgi) hact h
  case istore_n n =>
    replace hnx : nx = pc + 1 := hnx
    subst hnx
    exact si_istore_n F hKS hd (of_decide_eq_true hgi) (Nat.le_of_ble_eq_true hso) hact h
  case istore n =>
    replace hnx : nx = pc + 2 := hnx
    subst hnx
    exact si_istore F hKS hd (of_decide_eq_true hgi) (Nat.le_of_ble_eq_true hso) hact h
  case lload_n n =>
    replace hnx : nx = pc + 1 := hnx
    subst hnx
    exact si_lload_n F hKS hd (of_decide_eq_true hgi) hact h
  case lload n =>
    replace hnx : nx = pc + 2 := hnx
    subst hnx
    exact si_lload F hKS hd (of_decide_eq_true hgi) hact h
  case lstore_n n =>
    replace hnx : nx = pc + 1 := hnx
    subst hnx
    exact si_lstore_n F hKS hd (of_decide_eq_true hgi) (Nat.le_of_ble_eq_true hso) hact h
  case lstore n =>
    replace hnx : nx = pc + 2 := hnx
    subst hnx
    exact si_lstore F hKS hd (of_decide_eq_true hgi) (Nat.le_of_ble_eq_true hso) hact h
  case aload_n n =>
    replace hnx : nx = pc + 1 := hnx
    subst hnx
    exact si_aload_n F hKS hd (of_decide_eq_true hgi) hact h
  case aload n =>
    replace hnx : nx = pc + 2 := hnx
    subst hnx
    exact si_aload F hKS hd (of_decide_eq_true hgi) hact h
  case astore_n n =>
    replace hnx : nx = pc + 1 := hnx
    subst hnx
    exact si_astore_n F hKS hd (of_decide_eq_true hgi) (Nat.le_of_ble_eq_true hso) hact h
  case astore n =>
    replace hnx : nx = pc + 2 := hnx
    subst hnx
    exact si_astore F hKS hd (of_decide_eq_true hgi) (Nat.le_of_ble_eq_true hso) hact h
  case iinc n n2 =>
    replace hnx : nx = pc + 3 := hnx
    subst hnx
    exact si_iinc F hKS hd (of_decide_eq_true (Bool.and_eq_true_iff.mp hgi).1) (of_decide_eq_true (Bool.and_eq_true_iff.mp hgi).2) (Nat.le_of_ble_eq_true hso) hact h
  case iadd =>
    replace hnx : nx = pc + 1 := hnx
    subst hnx
    exact si_iadd F hKS hd hact h
  case isub =>
    replace hnx : nx = pc + 1 := hnx
    subst hnx
    exact si_isub F hKS hd hact h
  case imul =>
    replace hnx : nx = pc + 1 := hnx
    subst hnx
    exact si_imul F hKS hd hact h
  case iand =>
    replace hnx : nx = pc + 1 := hnx
    subst hnx
    exact si_iand F hKS hd hact h
  case ixor =>
    replace hnx : nx = pc + 1 := hnx
    subst hnx
    exact si_ixor F hKS hd hact h
  case ladd =>
    replace hnx : nx = pc + 1 := hnx
    subst hnx
    exact si_ladd F hKS hd hact h
  case lsub =>
    replace hnx : nx = pc + 1 := hnx
    subst hnx
    exact si_lsub F hKS hd hact h
  case lmul =>
    replace hnx : nx = pc + 1 := hnx
    subst hnx
    exact si_lmul F hKS hd hact h
  case land =>
    replace hnx : nx = pc + 1 := hnx
    subst hnx
    exact si_land F hKS hd hact h
  case lor =>
    replace hnx : nx = pc + 1 := hnx
    subst hnx
    exact si_lor F hKS hd hact h
  case idiv =>
    replace hnx : nx = pc + 1 := hnx
    subst hnx
    exact si_idiv F hKS hd hact h
  case irem =>
    replace hnx : nx = pc + 1 := hnx
    subst hnx
    exact si_irem F hKS hd hact h
  case ldiv =>
    replace hnx : nx = pc + 1 := hnx
    subst hnx
    exact si_ldiv F hKS hd hact h
  case lrem =>
    replace hnx : nx = pc + 1 := hnx
    subst hnx
    exact si_lrem F hKS hd hact h
  case lcmp =>
    replace hnx : nx = pc + 1 := hnx
    subst hnx
    exact si_lcmp F hKS hd hact h
  case lshl =>
    replace hnx : nx = pc + 1 := hnx
    subst hnx
    exact si_lshl F hKS hd hact h
  case lshr =>
    replace hnx : nx = pc + 1 := hnx
    subst hnx
    exact si_lshr F hKS hd hact h
  case lushr =>
    replace hnx : nx = pc + 1 := hnx
    subst hnx
    exact si_lushr F hKS hd hact h
  case lneg =>
    replace hnx : nx = pc + 1 := hnx
    subst hnx
    exact si_lneg F hKS hd hact h
  case i2l =>
    replace hnx : nx = pc + 1 := hnx
    subst hnx
    exact si_i2l F hKS hd hact h
  case l2i =>
    replace hnx : nx = pc + 1 := hnx
    subst hnx
    exact si_l2i F hKS hd hact h
  case i2b =>
    replace hnx : nx = pc + 1 := hnx
    subst hnx
    exact si_i2b F hKS hd hact h
  case dup =>
    replace hnx : nx = pc + 1 := hnx
    subst hnx
    exact si_dup F hKS hd hact h
  case pop =>
    replace hnx : nx = pc + 1 := hnx
    subst hnx
    exact si_pop F hKS hd hact h
  case goto o =>
    replace hnx : nx = pc + 3 := hnx
    subst hnx
    exact si_goto F hKS hd (of_decide_eq_true hgi) hact h
  case ifCond cnd o =>
    replace hnx : nx = pc + 3 := hnx
    subst hnx
    cases cnd
    case eq => exact si_if_eq F hKS hd (of_decide_eq_true hgi) hact h
    case ne => exact si_if_ne F hKS hd (of_decide_eq_true hgi) hact h
    case lt => exact si_if_lt F hKS hd (of_decide_eq_true hgi) hact h
    case ge => exact si_if_ge F hKS hd (of_decide_eq_true hgi) hact h
    case gt => exact si_if_gt F hKS hd (of_decide_eq_true hgi) hact h
    case le => exact si_if_le F hKS hd (of_decide_eq_true hgi) hact h
  case if_icmp cnd o =>
    replace hnx : nx = pc + 3 := hnx
    subst hnx
    cases cnd
    case eq => exact si_icmp_eq F hKS hd (of_decide_eq_true hgi) hact h
    case ne => exact si_icmp_ne F hKS hd (of_decide_eq_true hgi) hact h
    case lt => exact si_icmp_lt F hKS hd (of_decide_eq_true hgi) hact h
    case ge => exact si_icmp_ge F hKS hd (of_decide_eq_true hgi) hact h
    case gt => exact si_icmp_gt F hKS hd (of_decide_eq_true hgi) hact h
    case le => exact si_icmp_le F hKS hd (of_decide_eq_true hgi) hact h
  case ifnull o =>
    replace hnx : nx = pc + 3 := hnx
    subst hnx
    exact si_ifnull F hKS hd (of_decide_eq_true hgi) hact h
  case ifnonnull o =>
    replace hnx : nx = pc + 3 := hnx
    subst hnx
    exact si_ifnonnull F hKS hd (of_decide_eq_true hgi) hact h
  case tableswitch df lo hi offs => exact si_tableswitch F hKS hd hgi hact h
  case getfield n =>
    replace hnx : nx = pc + 3 := hnx
    subst hnx
    exact si_getfield F hKS hd hgi hact h
  case putfield n =>
    replace hnx : nx = pc + 3 := hnx
    subst hnx
    exact si_putfield F hsz hKS hd hgi hact h
  case getstatic n =>
    replace hnx : nx = pc + 3 := hnx
    subst hnx
    exact si_getstatic F hsz hKS hd hgi hact h
  case iaload =>
    replace hnx : nx = pc + 1 := hnx
    subst hnx
    exact si_iaload F hsz hz0 hRc hKS hd hact h
  case laload =>
    replace hnx : nx = pc + 1 := hnx
    subst hnx
    exact si_laload F hsz hz0 hRc hKS hd hact h
  case baload =>
    replace hnx : nx = pc + 1 := hnx
    subst hnx
    exact si_baload F hsz hz0 hRc hKS hd hact h
  case aaload =>
    replace hnx : nx = pc + 1 := hnx
    subst hnx
    exact si_aaload F hsz hz0 hRc hKS hd hact h
  case iastore =>
    replace hnx : nx = pc + 1 := hnx
    subst hnx
    exact si_iastore F hsz hz0 hRc hKS hd hact h
  case lastore =>
    replace hnx : nx = pc + 1 := hnx
    subst hnx
    exact si_lastore F hsz hz0 hRc hKS hd hact h
  case bastore =>
    replace hnx : nx = pc + 1 := hnx
    subst hnx
    exact si_bastore F hsz hz0 hRc hKS hd hact h
  case aastore =>
    replace hnx : nx = pc + 1 := hnx
    subst hnx
    exact si_aastore F hsz hz0 hRc hKS hd hact h
  case arraylength =>
    replace hnx : nx = pc + 1 := hnx
    subst hnx
    exact si_arraylength F hsz hz0 hRc hKS hd hact h
  case newarray n =>
    replace hnx : nx = pc + 2 := hnx
    subst hnx
    exact si_newarray F hsz hz0 hRc hKS hd hgi hact h
  case anewarray n =>
    replace hnx : nx = pc + 3 := hnx
    subst hnx
    exact si_anewarray F hsz hz0 hRc hKS hd hgi hact h
  case new n =>
    replace hnx : nx = pc + 3 := hnx
    subst hnx
    exact si_new F hsz hz0 hRc hKS hd hgi hact h
  case invokevirtual n =>
    replace hnx : nx = pc + 3 := hnx
    subst hnx
    exact si_invokevirtual F hR hRc hCS hKS (hlaw _ ⟨n, Or.inl rfl⟩ rfl) hd hgi hact h
  case invokestatic n =>
    replace hnx : nx = pc + 3 := hnx
    subst hnx
    exact si_invokestatic F hR hRc hCS hKS (hlaw _ ⟨n, Or.inr (Or.inl rfl)⟩ rfl) hd hgi hact h
  case invokespecial n =>
    replace hnx : nx = pc + 3 := hnx
    subst hnx
    exact si_invokespecial F hR hRc hCS hKS (hlaw _ ⟨n, Or.inr (Or.inr rfl)⟩ rfl) hd hgi hact h
  case ireturn => exact hret _ pc nx a b k dd w z tb ps ls st σ A (Or.inl rfl) hd hact h
  case lreturn => exact hret _ pc nx a b k dd w z tb ps ls st σ A (Or.inr (Or.inl rfl)) hd hact h
  case areturn => exact hret _ pc nx a b k dd w z tb ps ls st σ A (Or.inr (Or.inr (Or.inl rfl))) hd hact h
  case return_ => exact hret _ pc nx a b k dd w z tb ps ls st σ A (Or.inr (Or.inr (Or.inr rfl))) hd hact h
  all_goals exact absurd (show (none : Option Act) = some A from hact) (fun q => by cases q)
end STEP
