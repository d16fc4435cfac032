/-! ===== reading behind a write ===== -/
theorem gI_pI (σ : St) (j k : Nat) (v : Int32) (a b : Nat) : gI (pI σ j k v) a b = if a = j ∧ b = k then v else gI σ a b := rfl
theorem gL_pL (σ : St) (j k : Nat) (v : Int64) (a b : Nat) : gL (pL σ j k v) a b = if a = j ∧ b = k then v else gL σ a b := rfl
theorem gR_pR (σ : St) (j k : Nat) (v : Nat) (a b : Nat) : gR (pR σ j k v) a b = if a = j ∧ b = k then v else gR σ a b := rfl
theorem slV_pI {X : Cx} {σ : St} {j k : Nat} {v : Int32} (ty i b : Nat) (h : ¬ (i = j ∧ b = k)) : slV X (pI σ j k v) ty i b = slV X σ ty i b := by
  match ty with
  | 0 => show Value.int (gI (pI σ j k v) i b) = _; rw [gI_pI, if_neg h]; rfl
  | 1 => show Value.int (gI (pI σ j k v) i b) = _; rw [gI_pI, if_neg h]; rfl
  | 2 => show Value.int (gI (pI σ j k v) i b) = _; rw [gI_pI, if_neg h]; rfl
  | 3 => rfl
  | _ + 4 => rfl
theorem slV_pL {X : Cx} {σ : St} {j k : Nat} {v : Int64} (ty i b : Nat) (h : ¬ (i = j ∧ b = k)) : slV X (pL σ j k v) ty i b = slV X σ ty i b := by
  match ty with
  | 0 => rfl
  | 1 => rfl
  | 2 => rfl
  | 3 => show Value.long (gL (pL σ j k v) i b) = _; rw [gL_pL, if_neg h]; rfl
  | _ + 4 => rfl
theorem slV_pR {X : Cx} {σ : St} {j k : Nat} {v : Nat} (ty i b : Nat) (h : ¬ (i = j ∧ b = k)) : slV X (pR σ j k v) ty i b = slV X σ ty i b := by
  match ty with
  | 0 => rfl
  | 1 => rfl
  | 2 => rfl
  | 3 => rfl
  | _ + 4 => show va_rf (rfO X (gR (pR σ j k v) i b)) = _; rw [gR_pR, if_neg h]; rfl
theorem entO_pI {X : Cx} {σ : St} {j k : Nat} {v : Int32} (i : Nat) (h : i ≠ j) : entO X (pI σ j k v) i = entO X σ i := by
  unfold entO entA
  have e1 : (fun b => gI (pI σ j k v) i b) = fun b => gI σ i b := funext fun b => by rw [gI_pI, if_neg (fun q => h q.1)]
  have e2 : (fun b => slV X (pI σ j k v) (fty (gT σ i) b) i b) = fun b => slV X σ (fty (gT σ i) b) i b := funext fun b => slV_pI _ _ _ (fun q => h q.1)
  rw [e1]
  show (if gT σ i < 13 then _ else _) = _
  rw [show (fun k_1 => slV X (pI σ j k v) (fty (gT (pI σ j k v) i) k_1) i k_1) = fun b => slV X σ (fty (gT σ i) b) i b from e2]
  rfl
theorem entO_pL {X : Cx} {σ : St} {j k : Nat} {v : Int64} (i : Nat) (h : i ≠ j) : entO X (pL σ j k v) i = entO X σ i := by
  unfold entO entA
  have e1 : (fun b => gL (pL σ j k v) i b) = fun b => gL σ i b := funext fun b => by rw [gL_pL, if_neg (fun q => h q.1)]
  have e2 : (fun b => slV X (pL σ j k v) (fty (gT σ i) b) i b) = fun b => slV X σ (fty (gT σ i) b) i b := funext fun b => slV_pL _ _ _ (fun q => h q.1)
  rw [e1]
  show (if gT σ i < 13 then _ else _) = _
  rw [show (fun k_1 => slV X (pL σ j k v) (fty (gT (pL σ j k v) i) k_1) i k_1) = fun b => slV X σ (fty (gT σ i) b) i b from e2]
  rfl
theorem entO_pR {X : Cx} {σ : St} {j k : Nat} {v : Nat} (i : Nat) (h : i ≠ j) : entO X (pR σ j k v) i = entO X σ i := by
  unfold entO entA
  have e1 : (fun b => rfO X (gR (pR σ j k v) i b)) = fun b => rfO X (gR σ i b) := funext fun b => by rw [gR_pR, if_neg (fun q => h q.1)]
  have e2 : (fun b => slV X (pR σ j k v) (fty (gT σ i) b) i b) = fun b => slV X σ (fty (gT σ i) b) i b := funext fun b => slV_pR _ _ _ (fun q => h q.1)
  rw [e1]
  show (if gT σ i < 13 then _ else _) = _
  rw [show (fun k_1 => slV X (pR σ j k v) (fty (gT (pR σ j k v) i) k_1) i k_1) = fun b => slV X σ (fty (gT σ i) b) i b from e2]
  rfl
/-- what a write to cell j leaves -/
def UpdAt (lay : Nat → Nat → Nat) (X : Cx) (σ τ : St) (j : Nat) : Prop := sN τ = sN σ ∧ (∀ i, i ≠ j → entO X τ i = entO X σ i) ∧ wt τ ∧ (∀ a k, lay a k ≠ 0 → gR τ a k = lay a k) ∧ (gN τ 1 = gN σ 1 ∧ gI τ 1 = gI σ 1) ∧ (gN τ 2 = gN σ 2 ∧ gI τ 2 = gI σ 2)
theorem UpdAt_pI {lay : Nat → Nat → Nat} {X : Cx} {σ : St} {j k : Nat} {v : Int32} (h3 : 3 ≤ j) (hw : wt σ) (hl : ∀ a k, lay a k ≠ 0 → gR σ a k = lay a k) : UpdAt lay X σ (pI σ j k v) j :=
  ⟨rfl, entO_pI, hw, hl, ⟨rfl, funext fun b => by rw [gI_pI, if_neg (fun q => by omega)]⟩, ⟨rfl, funext fun b => by rw [gI_pI, if_neg (fun q => by omega)]⟩⟩
theorem UpdAt_pL {lay : Nat → Nat → Nat} {X : Cx} {σ : St} {j k : Nat} {v : Int64} (hw : wt σ) (hl : ∀ a k, lay a k ≠ 0 → gR σ a k = lay a k) : UpdAt lay X σ (pL σ j k v) j :=
  ⟨rfl, entO_pL, hw, hl, ⟨rfl, rfl⟩, ⟨rfl, rfl⟩⟩
theorem UpdAt_pR {lay : Nat → Nat → Nat} {X : Cx} {σ : St} {j k v : Nat} (hw : wt σ) (hl : ∀ a k, lay a k ≠ 0 → gR σ a k = lay a k) (hlc : layC lay j k v) (hv : ∀ t, sty (gT σ j) k = t + 4 → rOK σ t v) : UpdAt lay X σ (pR σ j k v) j := by
  refine ⟨rfl, entO_pR, ⟨hw.1, fun a b t h1 h2 h4 => ?_⟩, fun a b h => ?_, ⟨rfl, rfl⟩, ⟨rfl, rfl⟩⟩
  · rw [gR_pR]
    by_cases e : a = j ∧ b = k
    · rw [if_pos e]
      obtain ⟨rfl, rfl⟩ := e
      exact hv t h4
    · rw [if_neg e]
      exact hw.2 a b t h1 h2 h4
  · rw [gR_pR]
    by_cases e : a = j ∧ b = k
    · rw [if_pos e]
      obtain ⟨rfl, rfl⟩ := e
      rcases hlc with q | q
      · exact absurd q h
      · exact q.symm
    · rw [if_neg e]
      exact hl a b h
/-- the link word of a putfield, by its kind -/
def putL (q i ci k kind : Nat) (own : String) (ini : Bool) : Bool := match kind with
  | 0 => gw q (.fieldLink own i (tC ci k).1 (tC ci k).2.1 (tC ci k).2.2.1) && !(tC ci k).2.2.2
  | 1 => gw q (.fieldLinkNest own i (tC ci k).1 (tC ci k).2.1 (tC ci k).2.2.1 "MagnetRing") && !(tC ci k).2.2.2
  | _ => gw q (.fieldLink own i (tC ci k).1 (tC ci k).2.1 (tC ci k).2.2.1) && (tC ci k).2.2.2 && ini && decide ((tC ci k).1 = own)
section HR2
variable {p : Program} {l : Launch} {e : Env} {R : Room} {s : State} {m : MethodId} {args : Array Value} {below : List Frame} {meth : Method} {c : Code} {H : Heap} {locs : List Loc} {cells slots : Nat} {Q : State → Prop}
variable {cc : ByteArray} {pc : Nat} {L : Array Slot} {rest : List Value} {X : Cx} {lay : Nat → Nat → Nat} {L0 : Nat} {σ τ : St} {own : String}
theorem HW.store (hH : HW lay L0 X σ s H) (hS : va_S (fun q => X.1 ≤ q) s.heap H locs) (hsz : X.1 ≤ s.heap.size) {j : Nat} (h3 : 3 ≤ j) (hn : j < sN σ) (hu : UpdAt lay X σ τ j) {H1 : Heap} (hat : va_at X.2.2.2.1 vwCl (X.1 + (j - 3), entO X τ j) H1) (hz : H1.size = H.size) (oq : ∀ q, q ≠ X.1 + (j - 3) → H1[q]? = H[q]?) (k : Nat) : HW lay L0 X τ s H1 ∧ va_S (fun q => X.1 ≤ q) s.heap H1 (locs ++ [⟨X.1 + (j - 3), k⟩]) := by
  obtain ⟨u1, u2, u3, u4, u5, u6⟩ := hu
  have hS1 : va_S (fun q => X.1 ≤ q) s.heap H1 (locs ++ [⟨X.1 + (j - 3), k⟩]) := hS.put hz oq (Nat.le_add_right _ _)
  refine ⟨HW.put hH hS1 hS hz ?_ u1 u3 u4 u5 u6 hsz, hS1⟩
  rw [← conc_set h3 u1 u2]
  exact hH.1.set (conc_D X σ) (conc_get h3 hn) hat oq
/-- a field is written -/
theorem h_put (hx : p.tables.exec = Jvm.exec) (hb : c.code = cc) (hT : TW X s) (hown : s.vm.findClass own = some m.cls) (hH : HW lay L0 X σ s H) (hS : va_S (fun q => X.1 ≤ q) s.heap H locs) (hsz : X.1 ≤ s.heap.size) {ci k j i q kind : Nat} (hci : ci < 13) (hk : k < nF ci) (h3 : 3 ≤ j) (hn : j < sN σ) (ht : gT σ j = ci)
    (hl : putL q i ci k kind own (decide (meth.name = "<init>")) = true)
    {v : Value} {ty : FieldType} (hd : parseFieldDescriptor (tC ci k).2.2.1 = some ty) (hnar : narrow ty v = v) (hfit : fits ty v = true) (hu : UpdAt lay X σ τ j) (hτ : gT τ j = ci) (hsl : slV X τ (fty ci k) j k = v) (hso : ∀ b, b ≠ k → slV X τ (fty ci b) j b = slV X σ (fty ci b) j b) (hdg : decode cc pc = .ok (.putfield i, 3))
    (kk : ∀ (H1 : Heap) (locs1 : List Loc), HW lay L0 X τ s H1 → va_S (fun q => X.1 ≤ q) s.heap H1 locs1 → W p l e R s m args below meth c H1 locs1 cells slots Q (F0 m (pc + 3) L rest)) : W p l e R s m args below meth c H locs cells slots Q (F0 m pc L (v :: .ref (X.1 + (j - 3)) :: rest)) := by
  obtain ⟨T, ty0, hvw, hTk, hin, hty, hnm⟩ := cls_ok ci hci
  have hts : ∀ w ∈ u_ws (nmC ci) T (nF ci), w.before args s = true := fun w hw => hT.2 w (hin w hw) (lay_wOK w hw) args
  have he := conc_get (X := X) h3 hn
  rw [entO_obj ht hci] at he
  have hap := va_apart (own := own) hts (fun _ h => h) ty0 hty hnm hT.1 hvw
  obtain ⟨r, h1, cell, q1, q2, q3, q4⟩ := hH.1 (j - 3) _ he
  have hr : r = (nmC ci, T, nF ci) := Option.some.inj (h1.symm.trans hvw)
  subst hr
  obtain ⟨hSl, hfc, kC, hkC, hkind⟩ := hT.1.1 ci _ hvw
  obtain ⟨cf, kf, fi, f, hi, hsl2⟩ := hSl k hk
  have hlay := hts _ (u_in_lay hk)
  have hst := (u_facts hfc hkC (u_lays hts (fun _ h => h) hk) hi).1
  have hlen : k < ((List.range (nF ci)).map (fun k => slV X σ (fty ci k) j k)).length := by simpa using hk
  have fin : ∀ (H' : Heap), H'[X.1 + (j - 3)]? = some (cell.setSlot f.slot v) → H'.size = H.size → (∀ q, q ≠ X.1 + (j - 3) → H'[q]? = H[q]?) → W p l e R s m args below meth c H' (locs ++ [⟨X.1 + (j - 3), f.slot⟩]) cells slots Q (F0 m (pc + 3) L rest) := by
    intro H' e1 e2 e3
    rw [hsl2] at e1 ⊢
    have hat : va_at X.2.2.2.1 vwCl (X.1 + (j - 3), entO X τ j) H' := by
      rw [entO_obj hτ hci, ← map_set_range (fun k => slV X σ (fty ci k) j k) (fun k => slV X τ (fty ci k) j k) (nF ci) k hk hso, hsl]
      exact ⟨_, hvw, t_OB.to (V := updV (vp_V ((List.range (nF ci)).map (fun k => slV X σ (fty ci k) j k))) k v) ⟨_, e1, q2, q3, t_set q4 hap hk v⟩ (fun b _ => vp_updV_set hlen v b)⟩
    obtain ⟨a1, a2⟩ := HW.store hH hS hsz h3 hn hu hat e2 e3 (X.2.2.2.1.2 ci k)
    exact kk H' _ a1 a2
  unfold u_lay at hlay
  dsimp only at hi
  rw [hTk] at hi hlay
  match kind, hl with
  | 0, hl =>
    obtain ⟨l1, l2⟩ := Bool.and_eq_true_iff.mp hl
    have hfin : (tC ci k).2.2.2 = false := by simpa using l2
    rw [if_neg (by rw [hfin]; decide)] at hlay
    have h6 := u_store hfc hkC hkind hlay hi hd hnar hfit
    exact W.putK hx hb (f := f) ⟨hown, hT.2.get l1 rfl args, ⟨_, _, _, hi⟩, hst⟩ (by rw [q2]; exact h6) q1 q3 (by rw [hsl2]; exact k2_hasslot (q4 k hk)) rfl rfl hdg fin
  | 1, hl =>
    obtain ⟨l1, l2⟩ := Bool.and_eq_true_iff.mp hl
    have hfin : (tC ci k).2.2.2 = false := by simpa using l2
    rw [if_neg (by rw [hfin]; decide)] at hlay
    have h6 := u_store hfc hkC hkind hlay hi hd hnar hfit
    exact va_WputK hx hb (f := f) hown (hT.2.get l1 rfl args) hi hst (by rw [q2]; exact h6) q1 q3 (by rw [hsl2]; exact k2_hasslot (q4 k hk)) rfl rfl hdg fin
  | n + 2, hl =>
    obtain ⟨l123, l4⟩ := Bool.and_eq_true_iff.mp hl
    obtain ⟨l12, l3⟩ := Bool.and_eq_true_iff.mp l123
    obtain ⟨l1, l2⟩ := Bool.and_eq_true_iff.mp l12
    rw [if_pos l2] at hlay
    have hdecl : (tC ci k).1 = own := of_decide_eq_true l4
    have hcf : m.cls = cf := by
      obtain ⟨_, _, c', _, _, _, -, -, hf', -, -, -, hown2, -⟩ := Cond.laysFinal_spec hlay
      have e1 : c' = cf := by have := hi.symm.trans hf'; simp at this; exact this.1.symm
      rw [hdecl] at hown2
      rw [← e1]; exact Option.some.inj (hown.symm.trans hown2)
    have h6 := u_fits hfc hkC hkind (Or.inr hlay) hi hd hnar hfit
    exact W.putFinK hx hb hown (hT.2.get l1 rfl args) hi hst hcf (of_decide_eq_true l3) (by rw [q2]; exact h6) q1 q3 (by rw [hsl2]; exact k2_hasslot (q4 k hk)) rfl rfl hdg fin
end HR2
