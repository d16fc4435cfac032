/-! ===== new cells ===== -/
theorem gT_nw (σ : St) (t n a : Nat) : gT (nw σ t n) a = if a = sN σ then t else gT σ a := rfl
theorem gN_nw (σ : St) (t n a : Nat) : gN (nw σ t n) a = if a = sN σ then n else gN σ a := rfl
theorem gI_nw (σ : St) (t n a b : Nat) : gI (nw σ t n) a b = if a = sN σ then 0 else gI σ a b := rfl
theorem gL_nw (σ : St) (t n a b : Nat) : gL (nw σ t n) a b = if a = sN σ then 0 else gL σ a b := rfl
theorem gR_nw (σ : St) (t n a b : Nat) : gR (nw σ t n) a b = if a = sN σ then 0 else gR σ a b := rfl
theorem sN_nw (σ : St) (t n : Nat) : sN (nw σ t n) = sN σ + 1 := rfl
theorem sS_nw (σ : St) (t n : Nat) : sS (nw σ t n) = sS σ + n := rfl
theorem entO_nw {X : Cx} {σ : St} {t n i : Nat} (h : i < sN σ) : entO X (nw σ t n) i = entO X σ i := by
  have hne : ¬ i = sN σ := by omega
  have e0 : gT (nw σ t n) i = gT σ i := by rw [gT_nw, if_neg hne]
  have e1 : (fun b => gI (nw σ t n) i b) = fun b => gI σ i b := funext fun b => by rw [gI_nw, if_neg hne]
  have e2 : (fun b => gL (nw σ t n) i b) = fun b => gL σ i b := funext fun b => by rw [gL_nw, if_neg hne]
  have e3 : (fun b => rfO X (gR (nw σ t n) i b)) = fun b => rfO X (gR σ i b) := funext fun b => by rw [gR_nw, if_neg hne]
  have e4 : gN (nw σ t n) i = gN σ i := by rw [gN_nw, if_neg hne]
  have e5 : ∀ ty b, slV X (nw σ t n) ty i b = slV X σ ty i b := by
    intro ty b
    match ty with
    | 0 => exact congrArg Value.int (congrFun e1 b)
    | 1 => exact congrArg Value.int (congrFun e1 b)
    | 2 => exact congrArg Value.int (congrFun e1 b)
    | 3 => exact congrArg Value.long (congrFun e2 b)
    | _ + 4 => exact congrArg va_rf (congrFun e3 b)
  unfold entO entA
  rw [e0, e1, e2, e3, e4]
  simp only [e5]
theorem wt_nw {σ : St} {t n : Nat} (h3 : 3 ≤ sN σ) (hw : wt σ) (ht : t < 13 ∨ (16 ≤ t ∧ t ≤ 21)) : wt (nw σ t n) := by
  have hx : Ext σ (nw σ t n) := Ext_nw σ t n
  refine ⟨fun j h1 h2 => ?_, fun j k t' h1 h2 h4 => ?_⟩
  · rw [gT_nw]
    by_cases e : j = sN σ
    · rw [if_pos e]; exact ht
    · rw [if_neg e]; exact hw.1 j h1 (by rw [sN_nw] at h2; omega)
  · rw [gR_nw]
    by_cases e : j = sN σ
    · rw [if_pos e]; exact Or.inl rfl
    · rw [if_neg e]
      rw [gT_nw, if_neg e] at h4
      exact (hw.2 j k t' h1 (by rw [sN_nw] at h2; omega) h4).ext hx
def LZ (lay : Nat → Nat → Nat) (L0 : Nat) : Prop := ∀ j k, L0 ≤ j → lay j k = 0
section HR4
variable {p : Program} {l : Launch} {e : Env} {R : Room} {s : State} {m : MethodId} {args : Array Value} {below : List Frame} {meth : Method} {c : Code} {H : Heap} {locs : List Loc} {cells slots : Nat} {Q : State → Prop}
variable {cc : ByteArray} {pc : Nat} {L : Array Slot} {rest : List Value} {X : Cx} {lay : Nat → Nat → Nat} {L0 : Nat} {σ τ : St} {own : String}
theorem HW.push (hH : HW lay L0 X σ s H) (hz0 : LZ lay L0) (hS : va_S (fun q => X.1 ≤ q) s.heap H locs) (hsz : X.1 ≤ s.heap.size) {t n : Nat} (ht : t < 13 ∨ (16 ≤ t ∧ t ≤ 21)) {H1 : Heap} (hat : va_at X.2.2.2.1 vwCl (X.1 + (sN σ - 3), entO X (nw σ t n) (sN σ)) H1) (hz : H1.size = H.size + 1) (oq : ∀ q, q < H.size → H1[q]? = H[q]?) : HW lay L0 X (nw σ t n) s H1 ∧ va_S (fun q => X.1 ≤ q) s.heap H1 locs := by
  have hS1 : va_S (fun q => X.1 ≤ q) s.heap H1 locs := ⟨by have := hS.1; omega, fun q h1 h2 => (oq q (Nat.lt_of_lt_of_le h1 hS.1)).trans (hS.2.1 q h1 h2), hS.2.2⟩
  obtain ⟨g1, g2, g3, g4, g5, g6, g7, g8, g9⟩ := hH
  have low : ∀ q, q < X.1 → H1[q]? = H[q]? := fun q hq => oq q (by omega)
  have n1 : ¬ (1 : Nat) = sN σ := by omega
  have n2 : ¬ (2 : Nat) = sN σ := by omega
  refine ⟨⟨?_, by rw [sN_nw]; omega, by rw [sN_nw]; omega, wt_nw g3 g4 ht, ⟨by rw [sN_nw]; omega, fun j k h => ?_⟩, g6, ?_, ?_, ?_⟩, hS1⟩
  · rw [← conc_push (X := X) (σ := σ) (τ := nw σ t n) g3 rfl (fun i hi => entO_nw hi)]
    refine (g1.kept (fun k q hk => oq _ ((g1 k q hk).lt))).app (fun k q hk => ?_)
    have hz : k < 1 := (List.getElem?_eq_some_iff.mp hk).1
    rw [show k = 0 by omega] at hk
    cases hk
    exact hat
  · rw [gR_nw]
    by_cases e : j = sN σ
    · exact absurd (hz0 j k (by omega)) h
    · rw [if_neg e]; exact g5.2 j k h
  · rw [gN_nw, if_neg n1, show gI (nw σ t n) 1 = gI σ 1 from funext fun b => by rw [gI_nw, if_neg n1]]
    exact g7.kept (low _ g6.1)
  · rw [gN_nw, if_neg n2, show gI (nw σ t n) 2 = gI σ 2 from funext fun b => by rw [gI_nw, if_neg n2]]
    exact g8.kept (fun a _ ha => low a (Nat.not_le.mp ha))
  · exact g9.kept (fun a _ ha => low a (Nat.not_le.mp ha))
theorem def_slV {X : Cx} {σ : St} {t n k ty : Nat} {fy : FieldType} (h : tyMB ty (some fy) = true) : defaultValue fy = slV X (nw σ t n) ty (sN σ) k := by
  have e1 : gI (nw σ t n) (sN σ) k = 0 := by rw [gI_nw, if_pos rfl]
  have e2 : gL (nw σ t n) (sN σ) k = 0 := by rw [gL_nw, if_pos rfl]
  have e3 : gR (nw σ t n) (sN σ) k = 0 := by rw [gR_nw, if_pos rfl]
  match ty, h with
  | 0, h =>
    cases Option.some.inj (of_decide_eq_true h)
    show _ = Value.int _
    rw [e1]; rfl
  | 1, h =>
    cases Option.some.inj (of_decide_eq_true h)
    show _ = Value.int _
    rw [e1]; rfl
  | 3, h =>
    cases Option.some.inj (of_decide_eq_true h)
    show _ = Value.long _
    rw [e2]; rfl
  | t' + 4, h =>
    show _ = va_rf (rfO X _)
    rw [e3]
    match fy, h with
    | .object _, _ => rfl
    | .array _, _ => rfl
theorem h_new (hx : p.tables.exec = Jvm.exec) (hb : c.code = cc) (hT : TW X s) (hown : s.vm.findClass own = some m.cls) (hH : HW lay L0 X σ s H) (hz0 : LZ lay L0) (hS : va_S (fun q => X.1 ≤ q) s.heap H locs) (hsz : X.1 ≤ s.heap.size) {ci i q0 q1 q2 : Nat} (hci : ci < 13) (w0 : gw q0 (.classLink own i (nmC ci)) = true) (w1 : gw q1 (.instantiable (nmC ci) (nF ci)) = true) (w2 : gw q2 (.initialized (nmC ci)) = true) (hcells : cells + 1 ≤ R.cells) (hslots : slots + nF ci ≤ R.slots) (hdg : decode cc pc = .ok (.new i, 3))
    (kk : ∀ (H1 : Heap), HW lay L0 X (nw σ ci (nF ci)) s H1 → va_S (fun q => X.1 ≤ q) s.heap H1 locs → W p l e R s m args below meth c H1 locs (cells + 1) (slots + nF ci) Q (F0 m (pc + 3) L (.ref (X.1 + (sN σ - 3)) :: rest))) : W p l e R s m args below meth c H locs cells slots Q (F0 m pc L rest) := by
  obtain ⟨T, ty0, hvw, hTk, hin, hty, hnm⟩ := cls_ok ci hci
  have hts : ∀ w ∈ u_ws (nmC ci) T (nF ci), w.before args s = true := fun w hw => hT.2 w (hin w hw) (lay_wOK w hw) args
  have hKn := hT.1.1 ci _ hvw
  refine W.newcK hx hb hown (hT.2.get w0 rfl args) (hT.2.get w1 rfl args) (hT.2.get w2 rfl args) rfl hdg hcells hslots hKn.2.1 hH.2.1 fun H1 kC hkC e1 z1 o1 => ?_
  have hat : va_at X.2.2.2.1 vwCl (X.1 + (sN σ - 3), entO X (nw σ ci (nF ci)) (sN σ)) H1 := by
    rw [entO_obj (ci := ci) (by rw [gT_nw, if_pos rfl]) hci]
    refine ⟨_, hvw, (u_born ty0 hts (fun _ h => h) hKn hkC e1 hty).to (fun k hk => ?_)⟩
    have h1 := tyM_ok ci hci k hk
    rw [← hTk, hty k hk] at h1
    rw [def_slV (X := X) (σ := σ) (t := ci) (n := nF ci) (k := k) h1]
    simp [vp_V, hk]
  obtain ⟨a1, a2⟩ := HW.push hH hz0 hS hsz (Or.inl hci) hat (by rw [z1, hH.2.1]) (fun q hq => o1 q (by rw [hH.2.1] at hq; exact hq))
  exact kk H1 a1 a2
theorem h_newa (hx : p.tables.exec = Jvm.exec) (hb : c.code = cc) (hT : TW X s) (hH : HW lay L0 X σ s H) (hz0 : LZ lay L0) (hS : va_S (fun q => X.1 ≤ q) s.heap H locs) (hsz : X.1 ≤ s.heap.size) {t q0 : Nat} {at_ : ArrayType} {n : Int32} (ht : newarray.typeOf at_ = aTy t) (h16 : 16 ≤ t ∧ t ≤ 19) (w0 : gw q0 (.arrayClass (newarray.typeOf at_)) = true) (hn : 0 ≤ n.toInt ∧ n.toInt ≤ 40000) (hcells : cells + 1 ≤ R.cells) (hslots : slots + ix n ≤ R.slots) (hdg : decode cc pc = .ok (.newarray at_, 2))
    (kk : ∀ (H1 : Heap), HW lay L0 X (nw σ t (ix n)) s H1 → va_S (fun q => X.1 ≤ q) s.heap H1 locs → W p l e R s m args below meth c H1 locs (cells + 1) (slots + ix n) Q (F0 m (pc + 2) L (.ref (X.1 + (sN σ - 3)) :: rest))) : W p l e R s m args below meth c H locs cells slots Q (F0 m pc L (.int n :: rest)) := by
  have hn0 : ¬ n < 0 := by rw [Int32.lt_iff_toInt_lt]; show ¬ n.toInt < 0; omega
  have hixn : ix n ≤ 40000 := by
    show n.toInt.toNat ≤ 40000
    omega
  have hby : ix n * componentBytes (newarray.typeOf at_) ≤ 536870912 := by
    have : componentBytes (newarray.typeOf at_) ≤ 8 := by cases at_ <;> decide
    calc ix n * componentBytes (newarray.typeOf at_) ≤ 40000 * 8 := Nat.mul_le_mul hixn this
      _ ≤ 536870912 := by decide
  refine va_newaK hx hb (hT.2.get w0 rfl args) rfl hdg rfl hn0 rfl hby hcells hslots hH.2.1 fun H1 cA e1 z1 o1 hAr hNm => ?_
  have htt : (tysL X)[t - 16]? = some (X.2.2.2.2 t, aTy t) := by
    rcases (show t = 16 ∨ t = 17 ∨ t = 18 ∨ t = 19 by omega) with rfl | rfl | rfl | rfl <;> rfl
  have hcA : cA = X.2.2.2.2 t := by
    have h1 := (hT.1.2 _ _ htt).2
    rw [ht] at hNm
    rcases (show t = 16 ∨ t = 17 ∨ t = 18 ∨ t = 19 by omega) with rfl | rfl | rfl | rfl <;> exact Option.some.inj (hNm.symm.trans h1)
  have hat : va_at X.2.2.2.1 vwCl (X.1 + (sN σ - 3), entO X (nw σ t (ix n)) (sN σ)) H1 := by
    rw [entO_arr (t := t) (by rw [gT_nw, if_pos rfl]) h16.1]
    show H1[X.1 + (sN σ - 3)]? = some (vp_cell _ _)
    rw [e1, ht, hcA]
    rcases (show t = 16 ∨ t = 17 ∨ t = 18 ∨ t = 19 by omega) with rfl | rfl | rfl | rfl
    · rw [entA_i (by omega), gN_nw, if_pos rfl, show (fun k => gI (nw σ 16 (ix n)) (sN σ) k) = fun _ => 0 from funext fun k => by rw [gI_nw, if_pos rfl]]
      rfl
    · rw [entA_i (by omega), gN_nw, if_pos rfl, show (fun k => gI (nw σ 17 (ix n)) (sN σ) k) = fun _ => 0 from funext fun k => by rw [gI_nw, if_pos rfl]]
      rfl
    · rw [entA_i (by omega), gN_nw, if_pos rfl, show (fun k => gI (nw σ 18 (ix n)) (sN σ) k) = fun _ => 0 from funext fun k => by rw [gI_nw, if_pos rfl]]
      rfl
    · rw [entA_l, gN_nw, if_pos rfl, show (fun k => gL (nw σ 19 (ix n)) (sN σ) k) = fun _ => 0 from funext fun k => by rw [gL_nw, if_pos rfl]]
      rfl
  obtain ⟨a1, a2⟩ := HW.push hH hz0 hS hsz (Or.inr ⟨h16.1, by omega⟩) hat (by rw [z1, hH.2.1]) (fun q hq => o1 q (by rw [hH.2.1] at hq; exact hq))
  exact kk H1 a1 a2
theorem h_newq (hx : p.tables.exec = Jvm.exec) (hb : c.code = cc) (hT : TW X s) (hown : s.vm.findClass own = some m.cls) (hH : HW lay L0 X σ s H) (hz0 : LZ lay L0) (hS : va_S (fun q => X.1 ≤ q) s.heap H locs) (hsz : X.1 ≤ s.heap.size) {t i q0 q1 : Nat} {C : String} {n : Int32} (h20 : t = 20 ∧ C = RX5 ∨ t = 21 ∧ C = RX0) (w0 : gw q0 (.classLink own i C) = true) (w1 : gw q1 (.arrayOver (.object C)) = true) (hn : 0 ≤ n.toInt ∧ n.toInt ≤ 40000) (hcells : cells + 1 ≤ R.cells) (hslots : slots + ix n ≤ R.slots) (hdg : decode cc pc = .ok (.anewarray i, 3))
    (kk : ∀ (H1 : Heap), HW lay L0 X (nw σ t (ix n)) s H1 → va_S (fun q => X.1 ≤ q) s.heap H1 locs → W p l e R s m args below meth c H1 locs (cells + 1) (slots + ix n) Q (F0 m (pc + 3) L (.ref (X.1 + (sN σ - 3)) :: rest))) : W p l e R s m args below meth c H locs cells slots Q (F0 m pc L (.int n :: rest)) := by
  have hn0 : ¬ n < 0 := by rw [Int32.lt_iff_toInt_lt]; show ¬ n.toInt < 0; omega
  have hixn : ix n ≤ 40000 := by
    show n.toInt.toNat ≤ 40000
    omega
  have hby : ix n * 4 ≤ 536870912 := by omega
  refine W.anew hx hb hown (hT.2.get w0 rfl args) (hT.2.get w1 rfl args) rfl hdg rfl hn0 hby hcells hslots fun cA kA comp f1 f2 f3 f4 => ?_
  generalize hH1 : H.push ({ cls := cA, slots := Array.replicate n.toNatClampNeg .null, vm := .none } : Cell) = H1
  have z1 : H1.size = H.size + 1 := by rw [← hH1, Array.size_push]
  have e1 : H1[H.size]? = some (arrV cA n.toNatClampNeg (fun _ => .null)) := by rw [← hH1, Array.getElem?_push_size, ← arrV_new]
  have o1 : ∀ q : Nat, q < H.size → H1[q]? = H[q]? := fun q hq => by rw [← hH1, Array.getElem?_push, if_neg (Nat.ne_of_lt hq)]
  have htt : (tysL X)[t - 16]? = some (X.2.2.2.2 t, .object C) := by
    rcases h20 with ⟨rfl, rfl⟩ | ⟨rfl, rfl⟩ <;> rfl
  have hcA : cA = X.2.2.2.2 t := by
    obtain ⟨_, _, _, _, _, h1⟩ := (hT.1.2 _ _ htt).2
    exact Option.some.inj (f1.symm.trans h1)
  have ht20 : 20 ≤ t ∧ t ≤ 21 := by rcases h20 with ⟨rfl, -⟩ | ⟨rfl, -⟩ <;> decide
  have hat : va_at X.2.2.2.1 vwCl (X.1 + (sN σ - 3), entO X (nw σ t (ix n)) (sN σ)) H1 := by
    rw [entO_arr (t := t) (by rw [gT_nw, if_pos rfl]) (by omega), entA_q ht20.1, gN_nw, if_pos rfl, show (fun k => rfO X (gR (nw σ t (ix n)) (sN σ) k)) = fun _ => none from funext fun k => by rw [gR_nw, if_pos rfl]; rfl]
    show H1[X.1 + (sN σ - 3)]? = some (vp_cell _ _)
    rw [← hH.2.1, e1, hcA, vp_cell_q]
    rfl
  obtain ⟨a1, a2⟩ := HW.push hH hz0 hS hsz (Or.inr ⟨by omega, ht20.2⟩) hat z1 o1
  show W p l e R s m args below meth c H1 locs (cells + 1) (slots + n.toNatClampNeg) Q (F0 m (pc + 3) L (.ref H.size :: rest))
  rw [hH.2.1]
  exact kk H1 a1 a2
end HR4
